/-! ===== METHODS' ROWS ===== -/
noncomputable def q_cok (ow : Nat) (ini : Bool) (nL : Nat) (bytes : ByteArray) (cd : List q_I) : Bool := cd.all fun e => decide (decode bytes e.1 = .ok (e.2.1, e.2.2.1)) && q_chk ow ini nL e.1 e.2.1 e.2.2.1 e.2.2.2
theorem q_cok_of {ow : Nat} {ini : Bool} {nL : Nat} {bytes : ByteArray} {cd : List q_I} (h : q_cok ow ini nL bytes cd = true) : ∀ e ∈ cd, decode bytes e.1 = .ok (e.2.1, e.2.2.1) ∧ q_chk ow ini nL e.1 e.2.1 e.2.2.1 e.2.2.2 = true := by
  intro e he
  obtain ⟨h1, h2⟩ := q_and (List.all_eq_true.mp h e he)
  exact ⟨of_decide_eq_true h1, h2⟩
theorem q_cokA {ow : Nat} {ini : Bool} {nL : Nat} {bytes : ByteArray} {cd : List q_I} (a n : Nat) (h1 : q_cok ow ini nL bytes ((cd.drop a).take n) = true) (h2 : q_cok ow ini nL bytes (cd.drop (a + n)) = true) : q_cok ow ini nL bytes (cd.drop a) = true := by
  unfold q_cok at *
  rw [← List.take_append_drop n (cd.drop a), List.all_append, h1, List.drop_drop, h2]
  rfl
theorem co_X0_init_0 : q_cok T_X0_init.1 (D_X0_init.1.name == "<init>") D_X0_init.2.2.1 D_X0_init.2.1 ((c_X0_init.drop 0).take 60) = true := by decide +kernel
theorem co_X0_init_60 : q_cok T_X0_init.1 (D_X0_init.1.name == "<init>") D_X0_init.2.2.1 D_X0_init.2.1 ((c_X0_init.drop 60).take 60) = true := by decide +kernel
set_option maxRecDepth 100000 in
theorem co_X0_init : q_cok T_X0_init.1 (D_X0_init.1.name == "<init>") D_X0_init.2.2.1 D_X0_init.2.1 (c_X0_init.drop 0) = true := (q_cokA 0 60 co_X0_init_0 (q_cokA 60 60 co_X0_init_60 rfl))
theorem ok_X0_init : q_mOK T_X0_init D_X0_init := ⟨rfl, rfl, rfl, by decide +kernel, q_cok_of co_X0_init⟩
theorem co_X0_axisOf : q_cok T_X0_axisOf.1 (D_X0_axisOf.1.name == "<init>") D_X0_axisOf.2.2.1 D_X0_axisOf.2.1 c_X0_axisOf = true := by decide +kernel
theorem ok_X0_axisOf : q_mOK T_X0_axisOf D_X0_axisOf := ⟨rfl, rfl, rfl, by decide +kernel, q_cok_of co_X0_axisOf⟩
theorem co_X0_turned : q_cok T_X0_turned.1 (D_X0_turned.1.name == "<init>") D_X0_turned.2.2.1 D_X0_turned.2.1 c_X0_turned = true := by decide +kernel
theorem ok_X0_turned : q_mOK T_X0_turned D_X0_turned := ⟨rfl, rfl, rfl, by decide +kernel, q_cok_of co_X0_turned⟩
theorem co_X0_stateAfter : q_cok T_X0_stateAfter.1 (D_X0_stateAfter.1.name == "<init>") D_X0_stateAfter.2.2.1 D_X0_stateAfter.2.1 c_X0_stateAfter = true := by decide +kernel
theorem ok_X0_stateAfter : q_mOK T_X0_stateAfter D_X0_stateAfter := ⟨rfl, rfl, rfl, by decide +kernel, q_cok_of co_X0_stateAfter⟩
theorem co_X0_holds : q_cok T_X0_holds.1 (D_X0_holds.1.name == "<init>") D_X0_holds.2.2.1 D_X0_holds.2.1 c_X0_holds = true := by decide +kernel
theorem ok_X0_holds : q_mOK T_X0_holds D_X0_holds := ⟨rfl, rfl, rfl, by decide +kernel, q_cok_of co_X0_holds⟩
theorem co_X0_axisByAxis : q_cok T_X0_axisByAxis.1 (D_X0_axisByAxis.1.name == "<init>") D_X0_axisByAxis.2.2.1 D_X0_axisByAxis.2.1 c_X0_axisByAxis = true := by decide +kernel
theorem ok_X0_axisByAxis : q_mOK T_X0_axisByAxis D_X0_axisByAxis := ⟨rfl, rfl, ⟨_, rfl, Or.inr ⟨_, rfl⟩⟩, by decide +kernel, q_cok_of co_X0_axisByAxis⟩
theorem co_X0_woven : q_cok T_X0_woven.1 (D_X0_woven.1.name == "<init>") D_X0_woven.2.2.1 D_X0_woven.2.1 c_X0_woven = true := by decide +kernel
theorem ok_X0_woven : q_mOK T_X0_woven D_X0_woven := ⟨rfl, rfl, ⟨_, rfl, Or.inr ⟨_, rfl⟩⟩, by decide +kernel, q_cok_of co_X0_woven⟩
theorem co_X1_init : q_cok T_X1_init.1 (D_X1_init.1.name == "<init>") D_X1_init.2.2.1 D_X1_init.2.1 c_X1_init = true := by decide +kernel
theorem ok_X1_init : q_mOK T_X1_init D_X1_init := ⟨rfl, rfl, rfl, by decide +kernel, q_cok_of co_X1_init⟩
theorem co_X1_begin : q_cok T_X1_begin.1 (D_X1_begin.1.name == "<init>") D_X1_begin.2.2.1 D_X1_begin.2.1 c_X1_begin = true := by decide +kernel
theorem ok_X1_begin : q_mOK T_X1_begin D_X1_begin := ⟨rfl, rfl, rfl, by decide +kernel, q_cok_of co_X1_begin⟩
theorem co_X1_append : q_cok T_X1_append.1 (D_X1_append.1.name == "<init>") D_X1_append.2.2.1 D_X1_append.2.1 c_X1_append = true := by decide +kernel
theorem ok_X1_append : q_mOK T_X1_append D_X1_append := ⟨rfl, rfl, rfl, by decide +kernel, q_cok_of co_X1_append⟩
theorem co_X1_offer_0 : q_cok T_X1_offer.1 (D_X1_offer.1.name == "<init>") D_X1_offer.2.2.1 D_X1_offer.2.1 ((c_X1_offer.drop 0).take 60) = true := by decide +kernel
theorem co_X1_offer_60 : q_cok T_X1_offer.1 (D_X1_offer.1.name == "<init>") D_X1_offer.2.2.1 D_X1_offer.2.1 ((c_X1_offer.drop 60).take 60) = true := by decide +kernel
set_option maxRecDepth 100000 in
theorem co_X1_offer : q_cok T_X1_offer.1 (D_X1_offer.1.name == "<init>") D_X1_offer.2.2.1 D_X1_offer.2.1 (c_X1_offer.drop 0) = true := (q_cokA 0 60 co_X1_offer_0 (q_cokA 60 60 co_X1_offer_60 rfl))
theorem ok_X1_offer : q_mOK T_X1_offer D_X1_offer := ⟨rfl, rfl, rfl, by decide +kernel, q_cok_of co_X1_offer⟩
theorem co_X1_weights : q_cok T_X1_weights.1 (D_X1_weights.1.name == "<init>") D_X1_weights.2.2.1 D_X1_weights.2.1 c_X1_weights = true := by decide +kernel
theorem ok_X1_weights : q_mOK T_X1_weights D_X1_weights := ⟨rfl, rfl, rfl, by decide +kernel, q_cok_of co_X1_weights⟩
theorem co_X1_copyFrom : q_cok T_X1_copyFrom.1 (D_X1_copyFrom.1.name == "<init>") D_X1_copyFrom.2.2.1 D_X1_copyFrom.2.1 c_X1_copyFrom = true := by decide +kernel
theorem ok_X1_copyFrom : q_mOK T_X1_copyFrom D_X1_copyFrom := ⟨rfl, rfl, rfl, by decide +kernel, q_cok_of co_X1_copyFrom⟩
theorem co_X1_isBefore : q_cok T_X1_isBefore.1 (D_X1_isBefore.1.name == "<init>") D_X1_isBefore.2.2.1 D_X1_isBefore.2.1 c_X1_isBefore = true := by decide +kernel
theorem ok_X1_isBefore : q_mOK T_X1_isBefore D_X1_isBefore := ⟨rfl, rfl, rfl, by decide +kernel, q_cok_of co_X1_isBefore⟩
theorem co_X2_init : q_cok T_X2_init.1 (D_X2_init.1.name == "<init>") D_X2_init.2.2.1 D_X2_init.2.1 c_X2_init = true := by decide +kernel
theorem ok_X2_init : q_mOK T_X2_init D_X2_init := ⟨rfl, rfl, rfl, by decide +kernel, q_cok_of co_X2_init⟩
theorem co_X2_on : q_cok T_X2_on.1 (D_X2_on.1.name == "<init>") D_X2_on.2.2.1 D_X2_on.2.1 c_X2_on = true := by decide +kernel
theorem ok_X2_on : q_mOK T_X2_on D_X2_on := ⟨rfl, rfl, rfl, by decide +kernel, q_cok_of co_X2_on⟩
theorem co_X2_isAheadOf : q_cok T_X2_isAheadOf.1 (D_X2_isAheadOf.1.name == "<init>") D_X2_isAheadOf.2.2.1 D_X2_isAheadOf.2.1 c_X2_isAheadOf = true := by decide +kernel
theorem ok_X2_isAheadOf : q_mOK T_X2_isAheadOf D_X2_isAheadOf := ⟨rfl, rfl, rfl, by decide +kernel, q_cok_of co_X2_isAheadOf⟩
theorem co_X3_init : q_cok T_X3_init.1 (D_X3_init.1.name == "<init>") D_X3_init.2.2.1 D_X3_init.2.1 c_X3_init = true := by decide +kernel
theorem ok_X3_init : q_mOK T_X3_init D_X3_init := ⟨rfl, rfl, rfl, by decide +kernel, q_cok_of co_X3_init⟩
theorem co_X3_init__0 : q_cok T_X3_init_.1 (D_X3_init_.1.name == "<init>") D_X3_init_.2.2.1 D_X3_init_.2.1 ((c_X3_init_.drop 0).take 60) = true := by decide +kernel
theorem co_X3_init__60 : q_cok T_X3_init_.1 (D_X3_init_.1.name == "<init>") D_X3_init_.2.2.1 D_X3_init_.2.1 ((c_X3_init_.drop 60).take 60) = true := by decide +kernel
set_option maxRecDepth 100000 in
theorem co_X3_init_ : q_cok T_X3_init_.1 (D_X3_init_.1.name == "<init>") D_X3_init_.2.2.1 D_X3_init_.2.1 (c_X3_init_.drop 0) = true := (q_cokA 0 60 co_X3_init__0 (q_cokA 60 60 co_X3_init__60 rfl))
theorem ok_X3_init_ : q_mOK T_X3_init_ D_X3_init_ := ⟨rfl, rfl, rfl, by decide +kernel, q_cok_of co_X3_init_⟩
theorem co_X3_come_0 : q_cok T_X3_come.1 (D_X3_come.1.name == "<init>") D_X3_come.2.2.1 D_X3_come.2.1 ((c_X3_come.drop 0).take 60) = true := by decide +kernel
theorem co_X3_come_60 : q_cok T_X3_come.1 (D_X3_come.1.name == "<init>") D_X3_come.2.2.1 D_X3_come.2.1 ((c_X3_come.drop 60).take 60) = true := by decide +kernel
set_option maxRecDepth 100000 in
theorem co_X3_come : q_cok T_X3_come.1 (D_X3_come.1.name == "<init>") D_X3_come.2.2.1 D_X3_come.2.1 (c_X3_come.drop 0) = true := (q_cokA 0 60 co_X3_come_0 (q_cokA 60 60 co_X3_come_60 rfl))
theorem ok_X3_come : q_mOK T_X3_come D_X3_come := ⟨rfl, rfl, rfl, by decide +kernel, q_cok_of co_X3_come⟩
theorem co_X3_go_0 : q_cok T_X3_go.1 (D_X3_go.1.name == "<init>") D_X3_go.2.2.1 D_X3_go.2.1 ((c_X3_go.drop 0).take 60) = true := by decide +kernel
theorem co_X3_go_60 : q_cok T_X3_go.1 (D_X3_go.1.name == "<init>") D_X3_go.2.2.1 D_X3_go.2.1 ((c_X3_go.drop 60).take 60) = true := by decide +kernel
set_option maxRecDepth 100000 in
theorem co_X3_go : q_cok T_X3_go.1 (D_X3_go.1.name == "<init>") D_X3_go.2.2.1 D_X3_go.2.1 (c_X3_go.drop 0) = true := (q_cokA 0 60 co_X3_go_0 (q_cokA 60 60 co_X3_go_60 rfl))
theorem ok_X3_go : q_mOK T_X3_go D_X3_go := ⟨rfl, rfl, rfl, by decide +kernel, q_cok_of co_X3_go⟩
theorem co_X3_indexOf : q_cok T_X3_indexOf.1 (D_X3_indexOf.1.name == "<init>") D_X3_indexOf.2.2.1 D_X3_indexOf.2.1 c_X3_indexOf = true := by decide +kernel
theorem ok_X3_indexOf : q_mOK T_X3_indexOf D_X3_indexOf := ⟨rfl, rfl, rfl, by decide +kernel, q_cok_of co_X3_indexOf⟩
theorem co_X3_pageOf : q_cok T_X3_pageOf.1 (D_X3_pageOf.1.name == "<init>") D_X3_pageOf.2.2.1 D_X3_pageOf.2.1 c_X3_pageOf = true := by decide +kernel
theorem ok_X3_pageOf : q_mOK T_X3_pageOf D_X3_pageOf := ⟨rfl, rfl, rfl, by decide +kernel, q_cok_of co_X3_pageOf⟩
theorem co_X3_startOf : q_cok T_X3_startOf.1 (D_X3_startOf.1.name == "<init>") D_X3_startOf.2.2.1 D_X3_startOf.2.1 c_X3_startOf = true := by decide +kernel
theorem ok_X3_startOf : q_mOK T_X3_startOf D_X3_startOf := ⟨rfl, rfl, rfl, by decide +kernel, q_cok_of co_X3_startOf⟩
theorem co_X3_weightsOf : q_cok T_X3_weightsOf.1 (D_X3_weightsOf.1.name == "<init>") D_X3_weightsOf.2.2.1 D_X3_weightsOf.2.1 c_X3_weightsOf = true := by decide +kernel
theorem ok_X3_weightsOf : q_mOK T_X3_weightsOf D_X3_weightsOf := ⟨rfl, rfl, rfl, by decide +kernel, q_cok_of co_X3_weightsOf⟩
theorem co_X3_leastOf : q_cok T_X3_leastOf.1 (D_X3_leastOf.1.name == "<init>") D_X3_leastOf.2.2.1 D_X3_leastOf.2.1 c_X3_leastOf = true := by decide +kernel
theorem ok_X3_leastOf : q_mOK T_X3_leastOf D_X3_leastOf := ⟨rfl, rfl, rfl, by decide +kernel, q_cok_of co_X3_leastOf⟩
theorem co_X3_greatestOf : q_cok T_X3_greatestOf.1 (D_X3_greatestOf.1.name == "<init>") D_X3_greatestOf.2.2.1 D_X3_greatestOf.2.1 c_X3_greatestOf = true := by decide +kernel
theorem ok_X3_greatestOf : q_mOK T_X3_greatestOf D_X3_greatestOf := ⟨rfl, rfl, rfl, by decide +kernel, q_cok_of co_X3_greatestOf⟩
theorem co_X3_markNames : q_cok T_X3_markNames.1 (D_X3_markNames.1.name == "<init>") D_X3_markNames.2.2.1 D_X3_markNames.2.1 c_X3_markNames = true := by decide +kernel
theorem ok_X3_markNames : q_mOK T_X3_markNames D_X3_markNames := ⟨rfl, rfl, rfl, by decide +kernel, q_cok_of co_X3_markNames⟩
theorem co_X3_part : q_cok T_X3_part.1 (D_X3_part.1.name == "<init>") D_X3_part.2.2.1 D_X3_part.2.1 c_X3_part = true := by decide +kernel
theorem ok_X3_part : q_mOK T_X3_part D_X3_part := ⟨rfl, rfl, rfl, by decide +kernel, q_cok_of co_X3_part⟩
theorem co_X3_melt : q_cok T_X3_melt.1 (D_X3_melt.1.name == "<init>") D_X3_melt.2.2.1 D_X3_melt.2.1 c_X3_melt = true := by decide +kernel
theorem ok_X3_melt : q_mOK T_X3_melt D_X3_melt := ⟨rfl, rfl, rfl, by decide +kernel, q_cok_of co_X3_melt⟩
theorem co_X3_removePage : q_cok T_X3_removePage.1 (D_X3_removePage.1.name == "<init>") D_X3_removePage.2.2.1 D_X3_removePage.2.1 c_X3_removePage = true := by decide +kernel
theorem ok_X3_removePage : q_mOK T_X3_removePage D_X3_removePage := ⟨rfl, rfl, rfl, by decide +kernel, q_cok_of co_X3_removePage⟩
theorem co_X4_init : q_cok T_X4_init.1 (D_X4_init.1.name == "<init>") D_X4_init.2.2.1 D_X4_init.2.1 c_X4_init = true := by decide +kernel
theorem ok_X4_init : q_mOK T_X4_init D_X4_init := ⟨rfl, rfl, rfl, by decide +kernel, q_cok_of co_X4_init⟩
theorem co_X4_aim : q_cok T_X4_aim.1 (D_X4_aim.1.name == "<init>") D_X4_aim.2.2.1 D_X4_aim.2.1 c_X4_aim = true := by decide +kernel
theorem ok_X4_aim : q_mOK T_X4_aim D_X4_aim := ⟨rfl, rfl, rfl, by decide +kernel, q_cok_of co_X4_aim⟩
theorem co_X4_measure : q_cok T_X4_measure.1 (D_X4_measure.1.name == "<init>") D_X4_measure.2.2.1 D_X4_measure.2.1 c_X4_measure = true := by decide +kernel
theorem ok_X4_measure : q_mOK T_X4_measure D_X4_measure := ⟨rfl, rfl, rfl, by decide +kernel, q_cok_of co_X4_measure⟩
theorem co_X4_readNearest : q_cok T_X4_readNearest.1 (D_X4_readNearest.1.name == "<init>") D_X4_readNearest.2.2.1 D_X4_readNearest.2.1 c_X4_readNearest = true := by decide +kernel
theorem ok_X4_readNearest : q_mOK T_X4_readNearest D_X4_readNearest := ⟨rfl, rfl, rfl, by decide +kernel, q_cok_of co_X4_readNearest⟩
theorem co_X4_readWithin_0 : q_cok T_X4_readWithin.1 (D_X4_readWithin.1.name == "<init>") D_X4_readWithin.2.2.1 D_X4_readWithin.2.1 ((c_X4_readWithin.drop 0).take 60) = true := by decide +kernel
theorem co_X4_readWithin_60 : q_cok T_X4_readWithin.1 (D_X4_readWithin.1.name == "<init>") D_X4_readWithin.2.2.1 D_X4_readWithin.2.1 ((c_X4_readWithin.drop 60).take 60) = true := by decide +kernel
set_option maxRecDepth 100000 in
theorem co_X4_readWithin : q_cok T_X4_readWithin.1 (D_X4_readWithin.1.name == "<init>") D_X4_readWithin.2.2.1 D_X4_readWithin.2.1 (c_X4_readWithin.drop 0) = true := (q_cokA 0 60 co_X4_readWithin_0 (q_cokA 60 60 co_X4_readWithin_60 rfl))
theorem ok_X4_readWithin : q_mOK T_X4_readWithin D_X4_readWithin := ⟨rfl, rfl, rfl, by decide +kernel, q_cok_of co_X4_readWithin⟩
theorem co_X4_readPage : q_cok T_X4_readPage.1 (D_X4_readPage.1.name == "<init>") D_X4_readPage.2.2.1 D_X4_readPage.2.1 c_X4_readPage = true := by decide +kernel
theorem ok_X4_readPage : q_mOK T_X4_readPage D_X4_readPage := ⟨rfl, rfl, rfl, by decide +kernel, q_cok_of co_X4_readPage⟩
theorem co_X4_readClosest_0 : q_cok T_X4_readClosest.1 (D_X4_readClosest.1.name == "<init>") D_X4_readClosest.2.2.1 D_X4_readClosest.2.1 ((c_X4_readClosest.drop 0).take 60) = true := by decide +kernel
theorem co_X4_readClosest_60 : q_cok T_X4_readClosest.1 (D_X4_readClosest.1.name == "<init>") D_X4_readClosest.2.2.1 D_X4_readClosest.2.1 ((c_X4_readClosest.drop 60).take 60) = true := by decide +kernel
set_option maxRecDepth 100000 in
theorem co_X4_readClosest : q_cok T_X4_readClosest.1 (D_X4_readClosest.1.name == "<init>") D_X4_readClosest.2.2.1 D_X4_readClosest.2.1 (c_X4_readClosest.drop 0) = true := (q_cokA 0 60 co_X4_readClosest_0 (q_cokA 60 60 co_X4_readClosest_60 rfl))
theorem ok_X4_readClosest : q_mOK T_X4_readClosest D_X4_readClosest := ⟨rfl, rfl, rfl, by decide +kernel, q_cok_of co_X4_readClosest⟩
