/-! ===== METHODS' ROWS ===== -/
theorem co_X4_comesFirst : q_cok T_X4_comesFirst.1 (D_X4_comesFirst.1.name == "<init>") D_X4_comesFirst.2.2.1 D_X4_comesFirst.2.1 c_X4_comesFirst = true := by decide +kernel
theorem ok_X4_comesFirst : q_mOK T_X4_comesFirst D_X4_comesFirst := ⟨rfl, rfl, rfl, by decide +kernel, q_cok_of co_X4_comesFirst⟩
theorem co_X4_nextUnread : q_cok T_X4_nextUnread.1 (D_X4_nextUnread.1.name == "<init>") D_X4_nextUnread.2.2.1 D_X4_nextUnread.2.1 c_X4_nextUnread = true := by decide +kernel
theorem ok_X4_nextUnread : q_mOK T_X4_nextUnread D_X4_nextUnread := ⟨rfl, rfl, rfl, by decide +kernel, q_cok_of co_X4_nextUnread⟩
theorem co_X4_farOf : q_cok T_X4_farOf.1 (D_X4_farOf.1.name == "<init>") D_X4_farOf.2.2.1 D_X4_farOf.2.1 c_X4_farOf = true := by decide +kernel
theorem ok_X4_farOf : q_mOK T_X4_farOf D_X4_farOf := ⟨rfl, rfl, rfl, by decide +kernel, q_cok_of co_X4_farOf⟩
theorem co_X4_between : q_cok T_X4_between.1 (D_X4_between.1.name == "<init>") D_X4_between.2.2.1 D_X4_between.2.1 c_X4_between = true := by decide +kernel
theorem ok_X4_between : q_mOK T_X4_between D_X4_between := ⟨rfl, rfl, rfl, by decide +kernel, q_cok_of co_X4_between⟩
theorem co_X4_boxGap : q_cok T_X4_boxGap.1 (D_X4_boxGap.1.name == "<init>") D_X4_boxGap.2.2.1 D_X4_boxGap.2.1 c_X4_boxGap = true := by decide +kernel
theorem ok_X4_boxGap : q_mOK T_X4_boxGap D_X4_boxGap := ⟨rfl, rfl, rfl, by decide +kernel, q_cok_of co_X4_boxGap⟩
theorem co_X4_distance : q_cok T_X4_distance.1 (D_X4_distance.1.name == "<init>") D_X4_distance.2.2.1 D_X4_distance.2.1 c_X4_distance = true := by decide +kernel
theorem ok_X4_distance : q_mOK T_X4_distance D_X4_distance := ⟨rfl, rfl, rfl, by decide +kernel, q_cok_of co_X4_distance⟩
theorem co_X5_init : q_cok T_X5_init.1 (D_X5_init.1.name == "<init>") D_X5_init.2.2.1 D_X5_init.2.1 c_X5_init = true := by decide +kernel
theorem ok_X5_init : q_mOK T_X5_init D_X5_init := ⟨rfl, rfl, rfl, by decide +kernel, q_cok_of co_X5_init⟩
theorem co_X5_begin : q_cok T_X5_begin.1 (D_X5_begin.1.name == "<init>") D_X5_begin.2.2.1 D_X5_begin.2.1 c_X5_begin = true := by decide +kernel
theorem ok_X5_begin : q_mOK T_X5_begin D_X5_begin := ⟨rfl, rfl, rfl, by decide +kernel, q_cok_of co_X5_begin⟩
theorem co_X5_act : q_cok T_X5_act.1 (D_X5_act.1.name == "<init>") D_X5_act.2.2.1 D_X5_act.2.1 c_X5_act = true := by decide +kernel
theorem ok_X5_act : q_mOK T_X5_act D_X5_act := ⟨rfl, rfl, rfl, by decide +kernel, q_cok_of co_X5_act⟩
theorem co_X5_takeBack : q_cok T_X5_takeBack.1 (D_X5_takeBack.1.name == "<init>") D_X5_takeBack.2.2.1 D_X5_takeBack.2.1 c_X5_takeBack = true := by decide +kernel
theorem ok_X5_takeBack : q_mOK T_X5_takeBack D_X5_takeBack := ⟨rfl, rfl, rfl, by decide +kernel, q_cok_of co_X5_takeBack⟩
theorem co_X5_copyFrom : q_cok T_X5_copyFrom.1 (D_X5_copyFrom.1.name == "<init>") D_X5_copyFrom.2.2.1 D_X5_copyFrom.2.1 c_X5_copyFrom = true := by decide +kernel
theorem ok_X5_copyFrom : q_mOK T_X5_copyFrom D_X5_copyFrom := ⟨rfl, rfl, rfl, by decide +kernel, q_cok_of co_X5_copyFrom⟩
theorem co_X6_init : q_cok T_X6_init.1 (D_X6_init.1.name == "<init>") D_X6_init.2.2.1 D_X6_init.2.1 c_X6_init = true := by decide +kernel
theorem ok_X6_init : q_mOK T_X6_init D_X6_init := ⟨rfl, rfl, rfl, by decide +kernel, q_cok_of co_X6_init⟩
theorem co_X6_turned : q_cok T_X6_turned.1 (D_X6_turned.1.name == "<init>") D_X6_turned.2.2.1 D_X6_turned.2.1 c_X6_turned = true := by decide +kernel
theorem ok_X6_turned : q_mOK T_X6_turned D_X6_turned := ⟨rfl, rfl, rfl, by decide +kernel, q_cok_of co_X6_turned⟩
theorem co_X6_stateAfter : q_cok T_X6_stateAfter.1 (D_X6_stateAfter.1.name == "<init>") D_X6_stateAfter.2.2.1 D_X6_stateAfter.2.1 c_X6_stateAfter = true := by decide +kernel
theorem ok_X6_stateAfter : q_mOK T_X6_stateAfter D_X6_stateAfter := ⟨rfl, rfl, rfl, by decide +kernel, q_cok_of co_X6_stateAfter⟩
theorem co_X7_init : q_cok T_X7_init.1 (D_X7_init.1.name == "<init>") D_X7_init.2.2.1 D_X7_init.2.1 c_X7_init = true := by decide +kernel
theorem ok_X7_init : q_mOK T_X7_init D_X7_init := ⟨rfl, rfl, rfl, by decide +kernel, q_cok_of co_X7_init⟩
theorem co_X7_begin : q_cok T_X7_begin.1 (D_X7_begin.1.name == "<init>") D_X7_begin.2.2.1 D_X7_begin.2.1 c_X7_begin = true := by decide +kernel
theorem ok_X7_begin : q_mOK T_X7_begin D_X7_begin := ⟨rfl, rfl, rfl, by decide +kernel, q_cok_of co_X7_begin⟩
theorem co_X7_append : q_cok T_X7_append.1 (D_X7_append.1.name == "<init>") D_X7_append.2.2.1 D_X7_append.2.1 c_X7_append = true := by decide +kernel
theorem ok_X7_append : q_mOK T_X7_append D_X7_append := ⟨rfl, rfl, rfl, by decide +kernel, q_cok_of co_X7_append⟩
theorem co_X7_numbers : q_cok T_X7_numbers.1 (D_X7_numbers.1.name == "<init>") D_X7_numbers.2.2.1 D_X7_numbers.2.1 c_X7_numbers = true := by decide +kernel
theorem ok_X7_numbers : q_mOK T_X7_numbers D_X7_numbers := ⟨rfl, rfl, rfl, by decide +kernel, q_cok_of co_X7_numbers⟩
theorem co_X7_meltTo_0 : q_cok T_X7_meltTo.1 (D_X7_meltTo.1.name == "<init>") D_X7_meltTo.2.2.1 D_X7_meltTo.2.1 ((c_X7_meltTo.drop 0).take 60) = true := by decide +kernel
theorem co_X7_meltTo_60 : q_cok T_X7_meltTo.1 (D_X7_meltTo.1.name == "<init>") D_X7_meltTo.2.2.1 D_X7_meltTo.2.1 ((c_X7_meltTo.drop 60).take 60) = true := by decide +kernel
set_option maxRecDepth 100000 in
theorem co_X7_meltTo : q_cok T_X7_meltTo.1 (D_X7_meltTo.1.name == "<init>") D_X7_meltTo.2.2.1 D_X7_meltTo.2.1 (c_X7_meltTo.drop 0) = true := (q_cokA 0 60 co_X7_meltTo_0 (q_cokA 60 60 co_X7_meltTo_60 rfl))
theorem ok_X7_meltTo : q_mOK T_X7_meltTo D_X7_meltTo := ⟨rfl, rfl, rfl, by decide +kernel, q_cok_of co_X7_meltTo⟩
theorem co_X7_copyFrom : q_cok T_X7_copyFrom.1 (D_X7_copyFrom.1.name == "<init>") D_X7_copyFrom.2.2.1 D_X7_copyFrom.2.1 c_X7_copyFrom = true := by decide +kernel
theorem ok_X7_copyFrom : q_mOK T_X7_copyFrom D_X7_copyFrom := ⟨rfl, rfl, rfl, by decide +kernel, q_cok_of co_X7_copyFrom⟩
theorem co_X8_init : q_cok T_X8_init.1 (D_X8_init.1.name == "<init>") D_X8_init.2.2.1 D_X8_init.2.1 c_X8_init = true := by decide +kernel
theorem ok_X8_init : q_mOK T_X8_init D_X8_init := ⟨rfl, rfl, rfl, by decide +kernel, q_cok_of co_X8_init⟩
theorem co_X8_setCorner : q_cok T_X8_setCorner.1 (D_X8_setCorner.1.name == "<init>") D_X8_setCorner.2.2.1 D_X8_setCorner.2.1 c_X8_setCorner = true := by decide +kernel
theorem ok_X8_setCorner : q_mOK T_X8_setCorner D_X8_setCorner := ⟨rfl, rfl, rfl, by decide +kernel, q_cok_of co_X8_setCorner⟩
theorem co_X8_layOnRack : q_cok T_X8_layOnRack.1 (D_X8_layOnRack.1.name == "<init>") D_X8_layOnRack.2.2.1 D_X8_layOnRack.2.1 c_X8_layOnRack = true := by decide +kernel
theorem ok_X8_layOnRack : q_mOK T_X8_layOnRack D_X8_layOnRack := ⟨rfl, rfl, rfl, by decide +kernel, q_cok_of co_X8_layOnRack⟩
theorem co_X8_copyFrom_0 : q_cok T_X8_copyFrom.1 (D_X8_copyFrom.1.name == "<init>") D_X8_copyFrom.2.2.1 D_X8_copyFrom.2.1 ((c_X8_copyFrom.drop 0).take 60) = true := by decide +kernel
theorem co_X8_copyFrom_60 : q_cok T_X8_copyFrom.1 (D_X8_copyFrom.1.name == "<init>") D_X8_copyFrom.2.2.1 D_X8_copyFrom.2.1 ((c_X8_copyFrom.drop 60).take 60) = true := by decide +kernel
set_option maxRecDepth 100000 in
theorem co_X8_copyFrom : q_cok T_X8_copyFrom.1 (D_X8_copyFrom.1.name == "<init>") D_X8_copyFrom.2.2.1 D_X8_copyFrom.2.1 (c_X8_copyFrom.drop 0) = true := (q_cokA 0 60 co_X8_copyFrom_0 (q_cokA 60 60 co_X8_copyFrom_60 rfl))
theorem ok_X8_copyFrom : q_mOK T_X8_copyFrom D_X8_copyFrom := ⟨rfl, rfl, rfl, by decide +kernel, q_cok_of co_X8_copyFrom⟩
theorem co_X9_init : q_cok T_X9_init.1 (D_X9_init.1.name == "<init>") D_X9_init.2.2.1 D_X9_init.2.1 c_X9_init = true := by decide +kernel
theorem ok_X9_init : q_mOK T_X9_init D_X9_init := ⟨rfl, rfl, rfl, by decide +kernel, q_cok_of co_X9_init⟩
theorem co_X9_axisOf : q_cok T_X9_axisOf.1 (D_X9_axisOf.1.name == "<init>") D_X9_axisOf.2.2.1 D_X9_axisOf.2.1 c_X9_axisOf = true := by decide +kernel
theorem ok_X9_axisOf : q_mOK T_X9_axisOf D_X9_axisOf := ⟨rfl, rfl, rfl, by decide +kernel, q_cok_of co_X9_axisOf⟩
theorem co_X9_turned : q_cok T_X9_turned.1 (D_X9_turned.1.name == "<init>") D_X9_turned.2.2.1 D_X9_turned.2.1 c_X9_turned = true := by decide +kernel
theorem ok_X9_turned : q_mOK T_X9_turned D_X9_turned := ⟨rfl, rfl, rfl, by decide +kernel, q_cok_of co_X9_turned⟩
theorem co_X9_stateAfter_0 : q_cok T_X9_stateAfter.1 (D_X9_stateAfter.1.name == "<init>") D_X9_stateAfter.2.2.1 D_X9_stateAfter.2.1 ((c_X9_stateAfter.drop 0).take 60) = true := by decide +kernel
theorem co_X9_stateAfter_60 : q_cok T_X9_stateAfter.1 (D_X9_stateAfter.1.name == "<init>") D_X9_stateAfter.2.2.1 D_X9_stateAfter.2.1 ((c_X9_stateAfter.drop 60).take 60) = true := by decide +kernel
theorem co_X9_stateAfter_120 : q_cok T_X9_stateAfter.1 (D_X9_stateAfter.1.name == "<init>") D_X9_stateAfter.2.2.1 D_X9_stateAfter.2.1 ((c_X9_stateAfter.drop 120).take 60) = true := by decide +kernel
set_option maxRecDepth 100000 in
theorem co_X9_stateAfter : q_cok T_X9_stateAfter.1 (D_X9_stateAfter.1.name == "<init>") D_X9_stateAfter.2.2.1 D_X9_stateAfter.2.1 (c_X9_stateAfter.drop 0) = true := (q_cokA 0 60 co_X9_stateAfter_0 (q_cokA 60 60 co_X9_stateAfter_60 (q_cokA 120 60 co_X9_stateAfter_120 rfl)))
theorem ok_X9_stateAfter : q_mOK T_X9_stateAfter D_X9_stateAfter := ⟨rfl, rfl, rfl, by decide +kernel, q_cok_of co_X9_stateAfter⟩
theorem co_X9_bitBeforeTurn : q_cok T_X9_bitBeforeTurn.1 (D_X9_bitBeforeTurn.1.name == "<init>") D_X9_bitBeforeTurn.2.2.1 D_X9_bitBeforeTurn.2.1 c_X9_bitBeforeTurn = true := by decide +kernel
theorem ok_X9_bitBeforeTurn : q_mOK T_X9_bitBeforeTurn D_X9_bitBeforeTurn := ⟨rfl, rfl, rfl, by decide +kernel, q_cok_of co_X9_bitBeforeTurn⟩
theorem co_X10_init : q_cok T_X10_init.1 (D_X10_init.1.name == "<init>") D_X10_init.2.2.1 D_X10_init.2.1 c_X10_init = true := by decide +kernel
theorem ok_X10_init : q_mOK T_X10_init D_X10_init := ⟨rfl, rfl, rfl, by decide +kernel, q_cok_of co_X10_init⟩
theorem co_X10_enter : q_cok T_X10_enter.1 (D_X10_enter.1.name == "<init>") D_X10_enter.2.2.1 D_X10_enter.2.1 c_X10_enter = true := by decide +kernel
theorem ok_X10_enter : q_mOK T_X10_enter D_X10_enter := ⟨rfl, rfl, rfl, by decide +kernel, q_cok_of co_X10_enter⟩
theorem co_X10_narrow : q_cok T_X10_narrow.1 (D_X10_narrow.1.name == "<init>") D_X10_narrow.2.2.1 D_X10_narrow.2.1 c_X10_narrow = true := by decide +kernel
theorem ok_X10_narrow : q_mOK T_X10_narrow D_X10_narrow := ⟨rfl, rfl, rfl, by decide +kernel, q_cok_of co_X10_narrow⟩
theorem co_X10_windowPlaces : q_cok T_X10_windowPlaces.1 (D_X10_windowPlaces.1.name == "<init>") D_X10_windowPlaces.2.2.1 D_X10_windowPlaces.2.1 c_X10_windowPlaces = true := by decide +kernel
theorem ok_X10_windowPlaces : q_mOK T_X10_windowPlaces D_X10_windowPlaces := ⟨rfl, rfl, rfl, by decide +kernel, q_cok_of co_X10_windowPlaces⟩
theorem co_X10_isInWindow : q_cok T_X10_isInWindow.1 (D_X10_isInWindow.1.name == "<init>") D_X10_isInWindow.2.2.1 D_X10_isInWindow.2.1 c_X10_isInWindow = true := by decide +kernel
theorem ok_X10_isInWindow : q_mOK T_X10_isInWindow D_X10_isInWindow := ⟨rfl, rfl, rfl, by decide +kernel, q_cok_of co_X10_isInWindow⟩
theorem co_X10_leaf : q_cok T_X10_leaf.1 (D_X10_leaf.1.name == "<init>") D_X10_leaf.2.2.1 D_X10_leaf.2.1 c_X10_leaf = true := by decide +kernel
theorem ok_X10_leaf : q_mOK T_X10_leaf D_X10_leaf := ⟨rfl, rfl, rfl, by decide +kernel, q_cok_of co_X10_leaf⟩
theorem co_X10_numberOf_0 : q_cok T_X10_numberOf.1 (D_X10_numberOf.1.name == "<init>") D_X10_numberOf.2.2.1 D_X10_numberOf.2.1 ((c_X10_numberOf.drop 0).take 60) = true := by decide +kernel
theorem co_X10_numberOf_60 : q_cok T_X10_numberOf.1 (D_X10_numberOf.1.name == "<init>") D_X10_numberOf.2.2.1 D_X10_numberOf.2.1 ((c_X10_numberOf.drop 60).take 60) = true := by decide +kernel
set_option maxRecDepth 100000 in
theorem co_X10_numberOf : q_cok T_X10_numberOf.1 (D_X10_numberOf.1.name == "<init>") D_X10_numberOf.2.2.1 D_X10_numberOf.2.1 (c_X10_numberOf.drop 0) = true := (q_cokA 0 60 co_X10_numberOf_0 (q_cokA 60 60 co_X10_numberOf_60 rfl))
theorem ok_X10_numberOf : q_mOK T_X10_numberOf D_X10_numberOf := ⟨rfl, rfl, rfl, by decide +kernel, q_cok_of co_X10_numberOf⟩
theorem co_X10_seek_0 : q_cok T_X10_seek.1 (D_X10_seek.1.name == "<init>") D_X10_seek.2.2.1 D_X10_seek.2.1 ((c_X10_seek.drop 0).take 60) = true := by decide +kernel
theorem co_X10_seek_60 : q_cok T_X10_seek.1 (D_X10_seek.1.name == "<init>") D_X10_seek.2.2.1 D_X10_seek.2.1 ((c_X10_seek.drop 60).take 60) = true := by decide +kernel
set_option maxRecDepth 100000 in
theorem co_X10_seek : q_cok T_X10_seek.1 (D_X10_seek.1.name == "<init>") D_X10_seek.2.2.1 D_X10_seek.2.1 (c_X10_seek.drop 0) = true := (q_cokA 0 60 co_X10_seek_0 (q_cokA 60 60 co_X10_seek_60 rfl))
theorem ok_X10_seek : q_mOK T_X10_seek D_X10_seek := ⟨rfl, rfl, rfl, by decide +kernel, q_cok_of co_X10_seek⟩
theorem co_X10_onward : q_cok T_X10_onward.1 (D_X10_onward.1.name == "<init>") D_X10_onward.2.2.1 D_X10_onward.2.1 c_X10_onward = true := by decide +kernel
theorem ok_X10_onward : q_mOK T_X10_onward D_X10_onward := ⟨rfl, rfl, rfl, by decide +kernel, q_cok_of co_X10_onward⟩
theorem co_X10_climb : q_cok T_X10_climb.1 (D_X10_climb.1.name == "<init>") D_X10_climb.2.2.1 D_X10_climb.2.1 c_X10_climb = true := by decide +kernel
theorem ok_X10_climb : q_mOK T_X10_climb D_X10_climb := ⟨rfl, rfl, rfl, by decide +kernel, q_cok_of co_X10_climb⟩
theorem co_X10_descend : q_cok T_X10_descend.1 (D_X10_descend.1.name == "<init>") D_X10_descend.2.2.1 D_X10_descend.2.1 c_X10_descend = true := by decide +kernel
theorem ok_X10_descend : q_mOK T_X10_descend D_X10_descend := ⟨rfl, rfl, rfl, by decide +kernel, q_cok_of co_X10_descend⟩
theorem co_X10_step_0 : q_cok T_X10_step.1 (D_X10_step.1.name == "<init>") D_X10_step.2.2.1 D_X10_step.2.1 ((c_X10_step.drop 0).take 60) = true := by decide +kernel
theorem co_X10_step_60 : q_cok T_X10_step.1 (D_X10_step.1.name == "<init>") D_X10_step.2.2.1 D_X10_step.2.1 ((c_X10_step.drop 60).take 60) = true := by decide +kernel
theorem co_X10_step_120 : q_cok T_X10_step.1 (D_X10_step.1.name == "<init>") D_X10_step.2.2.1 D_X10_step.2.1 ((c_X10_step.drop 120).take 60) = true := by decide +kernel
set_option maxRecDepth 100000 in
theorem co_X10_step : q_cok T_X10_step.1 (D_X10_step.1.name == "<init>") D_X10_step.2.2.1 D_X10_step.2.1 (c_X10_step.drop 0) = true := (q_cokA 0 60 co_X10_step_0 (q_cokA 60 60 co_X10_step_60 (q_cokA 120 60 co_X10_step_120 rfl)))
theorem ok_X10_step : q_mOK T_X10_step D_X10_step := ⟨rfl, rfl, rfl, by decide +kernel, q_cok_of co_X10_step⟩
