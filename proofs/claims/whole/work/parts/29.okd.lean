/-! ===== METHODS' ROWS ===== -/
theorem co_X11_nearest : q_cok T_X11_nearest.1 (D_X11_nearest.1.name == "<init>") D_X11_nearest.2.2.1 D_X11_nearest.2.1 c_X11_nearest = true := by decide +kernel
theorem ok_X11_nearest : q_mOK T_X11_nearest D_X11_nearest := ⟨rfl, rfl, rfl, by decide +kernel, q_cok_of co_X11_nearest⟩
theorem co_X11_within : q_cok T_X11_within.1 (D_X11_within.1.name == "<init>") D_X11_within.2.2.1 D_X11_within.2.1 c_X11_within = true := by decide +kernel
theorem ok_X11_within : q_mOK T_X11_within D_X11_within := ⟨rfl, rfl, rfl, by decide +kernel, q_cok_of co_X11_within⟩
theorem co_X11_pairs : q_cok T_X11_pairs.1 (D_X11_pairs.1.name == "<init>") D_X11_pairs.2.2.1 D_X11_pairs.2.1 c_X11_pairs = true := by decide +kernel
theorem ok_X11_pairs : q_mOK T_X11_pairs D_X11_pairs := ⟨rfl, rfl, rfl, by decide +kernel, q_cok_of co_X11_pairs⟩
theorem co_X11_found : q_cok T_X11_found.1 (D_X11_found.1.name == "<init>") D_X11_found.2.2.1 D_X11_found.2.1 c_X11_found = true := by decide +kernel
theorem ok_X11_found : q_mOK T_X11_found D_X11_found := ⟨rfl, rfl, rfl, by decide +kernel, q_cok_of co_X11_found⟩
theorem co_X11_spent : q_cok T_X11_spent.1 (D_X11_spent.1.name == "<init>") D_X11_spent.2.2.1 D_X11_spent.2.1 c_X11_spent = true := by decide +kernel
theorem ok_X11_spent : q_mOK T_X11_spent D_X11_spent := ⟨rfl, rfl, rfl, by decide +kernel, q_cok_of co_X11_spent⟩
theorem co_X11_appendInWindow : q_cok T_X11_appendInWindow.1 (D_X11_appendInWindow.1.name == "<init>") D_X11_appendInWindow.2.2.1 D_X11_appendInWindow.2.1 c_X11_appendInWindow = true := by decide +kernel
theorem ok_X11_appendInWindow : q_mOK T_X11_appendInWindow D_X11_appendInWindow := ⟨rfl, rfl, rfl, by decide +kernel, q_cok_of co_X11_appendInWindow⟩
theorem co_X11_isWay : q_cok T_X11_isWay.1 (D_X11_isWay.1.name == "<init>") D_X11_isWay.2.2.1 D_X11_isWay.2.1 c_X11_isWay = true := by decide +kernel
theorem ok_X11_isWay : q_mOK T_X11_isWay D_X11_isWay := ⟨rfl, rfl, rfl, by decide +kernel, q_cok_of co_X11_isWay⟩
theorem co_X11_aimAt : q_cok T_X11_aimAt.1 (D_X11_aimAt.1.name == "<init>") D_X11_aimAt.2.2.1 D_X11_aimAt.2.1 c_X11_aimAt = true := by decide +kernel
theorem ok_X11_aimAt : q_mOK T_X11_aimAt D_X11_aimAt := ⟨rfl, rfl, ⟨_, rfl, Or.inl ⟨_, rfl⟩⟩, by decide +kernel, q_cok_of co_X11_aimAt⟩
theorem co_X11_mean_0 : q_cok T_X11_mean.1 (D_X11_mean.1.name == "<init>") D_X11_mean.2.2.1 D_X11_mean.2.1 ((c_X11_mean.drop 0).take 60) = true := by decide +kernel
theorem co_X11_mean_60 : q_cok T_X11_mean.1 (D_X11_mean.1.name == "<init>") D_X11_mean.2.2.1 D_X11_mean.2.1 ((c_X11_mean.drop 60).take 60) = true := by decide +kernel
set_option maxRecDepth 100000 in
theorem co_X11_mean : q_cok T_X11_mean.1 (D_X11_mean.1.name == "<init>") D_X11_mean.2.2.1 D_X11_mean.2.1 (c_X11_mean.drop 0) = true := (q_cokA 0 60 co_X11_mean_0 (q_cokA 60 60 co_X11_mean_60 rfl))
theorem ok_X11_mean : q_mOK T_X11_mean D_X11_mean := ⟨rfl, rfl, rfl, by decide +kernel, q_cok_of co_X11_mean⟩
theorem co_X11_compare : q_cok T_X11_compare.1 (D_X11_compare.1.name == "<init>") D_X11_compare.2.2.1 D_X11_compare.2.1 c_X11_compare = true := by decide +kernel
theorem ok_X11_compare : q_mOK T_X11_compare D_X11_compare := ⟨rfl, rfl, rfl, by decide +kernel, q_cok_of co_X11_compare⟩
theorem co_X11_hasMean : q_cok T_X11_hasMean.1 (D_X11_hasMean.1.name == "<init>") D_X11_hasMean.2.2.1 D_X11_hasMean.2.1 c_X11_hasMean = true := by decide +kernel
theorem ok_X11_hasMean : q_mOK T_X11_hasMean D_X11_hasMean := ⟨rfl, rfl, rfl, by decide +kernel, q_cok_of co_X11_hasMean⟩
theorem co_X11_spansTogether_0 : q_cok T_X11_spansTogether.1 (D_X11_spansTogether.1.name == "<init>") D_X11_spansTogether.2.2.1 D_X11_spansTogether.2.1 ((c_X11_spansTogether.drop 0).take 60) = true := by decide +kernel
theorem co_X11_spansTogether_60 : q_cok T_X11_spansTogether.1 (D_X11_spansTogether.1.name == "<init>") D_X11_spansTogether.2.2.1 D_X11_spansTogether.2.1 ((c_X11_spansTogether.drop 60).take 60) = true := by decide +kernel
set_option maxRecDepth 100000 in
theorem co_X11_spansTogether : q_cok T_X11_spansTogether.1 (D_X11_spansTogether.1.name == "<init>") D_X11_spansTogether.2.2.1 D_X11_spansTogether.2.1 (c_X11_spansTogether.drop 0) = true := (q_cokA 0 60 co_X11_spansTogether_0 (q_cokA 60 60 co_X11_spansTogether_60 rfl))
theorem ok_X11_spansTogether : q_mOK T_X11_spansTogether D_X11_spansTogether := ⟨rfl, rfl, rfl, by decide +kernel, q_cok_of co_X11_spansTogether⟩
theorem co_X11_windowsWithBoth : q_cok T_X11_windowsWithBoth.1 (D_X11_windowsWithBoth.1.name == "<init>") D_X11_windowsWithBoth.2.2.1 D_X11_windowsWithBoth.2.1 c_X11_windowsWithBoth = true := by decide +kernel
theorem ok_X11_windowsWithBoth : q_mOK T_X11_windowsWithBoth D_X11_windowsWithBoth := ⟨rfl, rfl, rfl, by decide +kernel, q_cok_of co_X11_windowsWithBoth⟩
theorem co_X11_greatestDivisor : q_cok T_X11_greatestDivisor.1 (D_X11_greatestDivisor.1.name == "<init>") D_X11_greatestDivisor.2.2.1 D_X11_greatestDivisor.2.1 c_X11_greatestDivisor = true := by decide +kernel
theorem ok_X11_greatestDivisor : q_mOK T_X11_greatestDivisor D_X11_greatestDivisor := ⟨rfl, rfl, rfl, by decide +kernel, q_cok_of co_X11_greatestDivisor⟩
theorem co_X11_witness_0 : q_cok T_X11_witness.1 (D_X11_witness.1.name == "<init>") D_X11_witness.2.2.1 D_X11_witness.2.1 ((c_X11_witness.drop 0).take 60) = true := by decide +kernel
theorem co_X11_witness_60 : q_cok T_X11_witness.1 (D_X11_witness.1.name == "<init>") D_X11_witness.2.2.1 D_X11_witness.2.1 ((c_X11_witness.drop 60).take 60) = true := by decide +kernel
set_option maxRecDepth 100000 in
theorem co_X11_witness : q_cok T_X11_witness.1 (D_X11_witness.1.name == "<init>") D_X11_witness.2.2.1 D_X11_witness.2.1 (c_X11_witness.drop 0) = true := (q_cokA 0 60 co_X11_witness_0 (q_cokA 60 60 co_X11_witness_60 rfl))
theorem ok_X11_witness : q_mOK T_X11_witness D_X11_witness := ⟨rfl, rfl, rfl, by decide +kernel, q_cok_of co_X11_witness⟩
theorem co_X11_out : q_cok T_X11_out.1 (D_X11_out.1.name == "<init>") D_X11_out.2.2.1 D_X11_out.2.1 c_X11_out = true := by decide +kernel
theorem ok_X11_out : q_mOK T_X11_out D_X11_out := ⟨rfl, rfl, rfl, by decide +kernel, q_cok_of co_X11_out⟩
theorem co_X11_forge : q_cok T_X11_forge.1 (D_X11_forge.1.name == "<init>") D_X11_forge.2.2.1 D_X11_forge.2.1 c_X11_forge = true := by decide +kernel
theorem ok_X11_forge : q_mOK T_X11_forge D_X11_forge := ⟨rfl, rfl, rfl, by decide +kernel, q_cok_of co_X11_forge⟩
theorem co_X11_check : q_cok T_X11_check.1 (D_X11_check.1.name == "<init>") D_X11_check.2.2.1 D_X11_check.2.1 c_X11_check = true := by decide +kernel
theorem ok_X11_check : q_mOK T_X11_check D_X11_check := ⟨rfl, rfl, rfl, by decide +kernel, q_cok_of co_X11_check⟩
theorem co_X11_firstFalsePage : q_cok T_X11_firstFalsePage.1 (D_X11_firstFalsePage.1.name == "<init>") D_X11_firstFalsePage.2.2.1 D_X11_firstFalsePage.2.1 c_X11_firstFalsePage = true := by decide +kernel
theorem ok_X11_firstFalsePage : q_mOK T_X11_firstFalsePage D_X11_firstFalsePage := ⟨rfl, rfl, rfl, by decide +kernel, q_cok_of co_X11_firstFalsePage⟩
theorem co_X11_tellsFar : q_cok T_X11_tellsFar.1 (D_X11_tellsFar.1.name == "<init>") D_X11_tellsFar.2.2.1 D_X11_tellsFar.2.1 c_X11_tellsFar = true := by decide +kernel
theorem ok_X11_tellsFar : q_mOK T_X11_tellsFar D_X11_tellsFar := ⟨rfl, rfl, rfl, by decide +kernel, q_cok_of co_X11_tellsFar⟩
theorem co_X11_firstMissedPage_0 : q_cok T_X11_firstMissedPage.1 (D_X11_firstMissedPage.1.name == "<init>") D_X11_firstMissedPage.2.2.1 D_X11_firstMissedPage.2.1 ((c_X11_firstMissedPage.drop 0).take 60) = true := by decide +kernel
theorem co_X11_firstMissedPage_60 : q_cok T_X11_firstMissedPage.1 (D_X11_firstMissedPage.1.name == "<init>") D_X11_firstMissedPage.2.2.1 D_X11_firstMissedPage.2.1 ((c_X11_firstMissedPage.drop 60).take 60) = true := by decide +kernel
set_option maxRecDepth 100000 in
theorem co_X11_firstMissedPage : q_cok T_X11_firstMissedPage.1 (D_X11_firstMissedPage.1.name == "<init>") D_X11_firstMissedPage.2.2.1 D_X11_firstMissedPage.2.1 (c_X11_firstMissedPage.drop 0) = true := (q_cokA 0 60 co_X11_firstMissedPage_0 (q_cokA 60 60 co_X11_firstMissedPage_60 rfl))
theorem ok_X11_firstMissedPage : q_mOK T_X11_firstMissedPage D_X11_firstMissedPage := ⟨rfl, rfl, rfl, by decide +kernel, q_cok_of co_X11_firstMissedPage⟩
theorem co_X11_lay : q_cok T_X11_lay.1 (D_X11_lay.1.name == "<init>") D_X11_lay.2.2.1 D_X11_lay.2.1 c_X11_lay = true := by decide +kernel
theorem ok_X11_lay : q_mOK T_X11_lay D_X11_lay := ⟨rfl, rfl, rfl, by decide +kernel, q_cok_of co_X11_lay⟩
theorem co_X11_ask : q_cok T_X11_ask.1 (D_X11_ask.1.name == "<init>") D_X11_ask.2.2.1 D_X11_ask.2.1 c_X11_ask = true := by decide +kernel
theorem ok_X11_ask : q_mOK T_X11_ask D_X11_ask := ⟨rfl, rfl, rfl, by decide +kernel, q_cok_of co_X11_ask⟩
theorem co_X11_layPoint : q_cok T_X11_layPoint.1 (D_X11_layPoint.1.name == "<init>") D_X11_layPoint.2.2.1 D_X11_layPoint.2.1 c_X11_layPoint = true := by decide +kernel
theorem ok_X11_layPoint : q_mOK T_X11_layPoint D_X11_layPoint := ⟨rfl, rfl, rfl, by decide +kernel, q_cok_of co_X11_layPoint⟩
theorem co_X11_layPage : q_cok T_X11_layPage.1 (D_X11_layPage.1.name == "<init>") D_X11_layPage.2.2.1 D_X11_layPage.2.1 c_X11_layPage = true := by decide +kernel
theorem ok_X11_layPage : q_mOK T_X11_layPage D_X11_layPage := ⟨rfl, rfl, rfl, by decide +kernel, q_cok_of co_X11_layPage⟩
theorem co_X11_layCurve : q_cok T_X11_layCurve.1 (D_X11_layCurve.1.name == "<init>") D_X11_layCurve.2.2.1 D_X11_layCurve.2.1 c_X11_layCurve = true := by decide +kernel
theorem ok_X11_layCurve : q_mOK T_X11_layCurve D_X11_layCurve := ⟨rfl, rfl, rfl, by decide +kernel, q_cok_of co_X11_layCurve⟩
theorem co_X11_image : q_cok T_X11_image.1 (D_X11_image.1.name == "<init>") D_X11_image.2.2.1 D_X11_image.2.1 c_X11_image = true := by decide +kernel
theorem ok_X11_image : q_mOK T_X11_image D_X11_image := ⟨rfl, rfl, rfl, by decide +kernel, q_cok_of co_X11_image⟩
theorem co_X11_back : q_cok T_X11_back.1 (D_X11_back.1.name == "<init>") D_X11_back.2.2.1 D_X11_back.2.1 c_X11_back = true := by decide +kernel
theorem ok_X11_back : q_mOK T_X11_back D_X11_back := ⟨rfl, rfl, rfl, by decide +kernel, q_cok_of co_X11_back⟩
theorem co_X12_init_0 : q_cok T_X12_init.1 (D_X12_init.1.name == "<init>") D_X12_init.2.2.1 D_X12_init.2.1 ((c_X12_init.drop 0).take 60) = true := by decide +kernel
theorem co_X12_init_60 : q_cok T_X12_init.1 (D_X12_init.1.name == "<init>") D_X12_init.2.2.1 D_X12_init.2.1 ((c_X12_init.drop 60).take 60) = true := by decide +kernel
set_option maxRecDepth 100000 in
theorem co_X12_init : q_cok T_X12_init.1 (D_X12_init.1.name == "<init>") D_X12_init.2.2.1 D_X12_init.2.1 (c_X12_init.drop 0) = true := (q_cokA 0 60 co_X12_init_0 (q_cokA 60 60 co_X12_init_60 rfl))
theorem ok_X12_init : q_mOK T_X12_init D_X12_init := ⟨rfl, rfl, rfl, by decide +kernel, q_cok_of co_X12_init⟩
theorem co_X12_isCurve : q_cok T_X12_isCurve.1 (D_X12_isCurve.1.name == "<init>") D_X12_isCurve.2.2.1 D_X12_isCurve.2.1 c_X12_isCurve = true := by decide +kernel
theorem ok_X12_isCurve : q_mOK T_X12_isCurve D_X12_isCurve := ⟨rfl, rfl, rfl, by decide +kernel, q_cok_of co_X12_isCurve⟩
theorem co_X12_of : q_cok T_X12_of.1 (D_X12_of.1.name == "<init>") D_X12_of.2.2.1 D_X12_of.2.1 c_X12_of = true := by decide +kernel
theorem ok_X12_of : q_mOK T_X12_of D_X12_of := ⟨rfl, rfl, rfl, by decide +kernel, q_cok_of co_X12_of⟩
theorem co_X12_kind : q_cok T_X12_kind.1 (D_X12_kind.1.name == "<init>") D_X12_kind.2.2.1 D_X12_kind.2.1 c_X12_kind = true := by decide +kernel
theorem ok_X12_kind : q_mOK T_X12_kind D_X12_kind := ⟨rfl, rfl, rfl, by decide +kernel, q_cok_of co_X12_kind⟩
theorem co_X12_axes : q_cok T_X12_axes.1 (D_X12_axes.1.name == "<init>") D_X12_axes.2.2.1 D_X12_axes.2.1 c_X12_axes = true := by decide +kernel
theorem ok_X12_axes : q_mOK T_X12_axes D_X12_axes := ⟨rfl, rfl, rfl, by decide +kernel, q_cok_of co_X12_axes⟩
theorem co_X12_has : q_cok T_X12_has.1 (D_X12_has.1.name == "<init>") D_X12_has.2.2.1 D_X12_has.2.1 c_X12_has = true := by decide +kernel
theorem ok_X12_has : q_mOK T_X12_has D_X12_has := ⟨rfl, rfl, rfl, by decide +kernel, q_cok_of co_X12_has⟩
theorem co_X12_can : q_cok T_X12_can.1 (D_X12_can.1.name == "<init>") D_X12_can.2.2.1 D_X12_can.2.1 c_X12_can = true := by decide +kernel
theorem ok_X12_can : q_mOK T_X12_can D_X12_can := ⟨rfl, rfl, rfl, by decide +kernel, q_cok_of co_X12_can⟩
theorem co_X12_curve_0 : q_cok T_X12_curve.1 (D_X12_curve.1.name == "<init>") D_X12_curve.2.2.1 D_X12_curve.2.1 ((c_X12_curve.drop 0).take 60) = true := by decide +kernel
theorem co_X12_curve_60 : q_cok T_X12_curve.1 (D_X12_curve.1.name == "<init>") D_X12_curve.2.2.1 D_X12_curve.2.1 ((c_X12_curve.drop 60).take 60) = true := by decide +kernel
theorem co_X12_curve_120 : q_cok T_X12_curve.1 (D_X12_curve.1.name == "<init>") D_X12_curve.2.2.1 D_X12_curve.2.1 ((c_X12_curve.drop 120).take 60) = true := by decide +kernel
set_option maxRecDepth 100000 in
theorem co_X12_curve : q_cok T_X12_curve.1 (D_X12_curve.1.name == "<init>") D_X12_curve.2.2.1 D_X12_curve.2.1 (c_X12_curve.drop 0) = true := (q_cokA 0 60 co_X12_curve_0 (q_cokA 60 60 co_X12_curve_60 (q_cokA 120 60 co_X12_curve_120 rfl)))
theorem ok_X12_curve : q_mOK T_X12_curve D_X12_curve := ⟨rfl, rfl, rfl, by decide +kernel, q_cok_of co_X12_curve⟩
