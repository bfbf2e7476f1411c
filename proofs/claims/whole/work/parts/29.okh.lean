/-! ===== METHODS' ROWS ===== -/
theorem co_X12_check_0 : q_cok T_X12_check.1 (D_X12_check.1.name == "<init>") D_X12_check.2.2.1 D_X12_check.2.1 ((c_X12_check.drop 0).take 60) = true := by decide +kernel
theorem co_X12_check_60 : q_cok T_X12_check.1 (D_X12_check.1.name == "<init>") D_X12_check.2.2.1 D_X12_check.2.1 ((c_X12_check.drop 60).take 60) = true := by decide +kernel
theorem co_X12_check_120 : q_cok T_X12_check.1 (D_X12_check.1.name == "<init>") D_X12_check.2.2.1 D_X12_check.2.1 ((c_X12_check.drop 120).take 60) = true := by decide +kernel
set_option maxRecDepth 100000 in
theorem co_X12_check : q_cok T_X12_check.1 (D_X12_check.1.name == "<init>") D_X12_check.2.2.1 D_X12_check.2.1 (c_X12_check.drop 0) = true := (q_cokA 0 60 co_X12_check_0 (q_cokA 60 60 co_X12_check_60 (q_cokA 120 60 co_X12_check_120 rfl)))
theorem ok_X12_check : q_mOK T_X12_check D_X12_check := ⟨rfl, rfl, rfl, by decide +kernel, q_cok_of co_X12_check⟩
theorem co_X12_lay_0 : q_cok T_X12_lay.1 (D_X12_lay.1.name == "<init>") D_X12_lay.2.2.1 D_X12_lay.2.1 ((c_X12_lay.drop 0).take 60) = true := by decide +kernel
theorem co_X12_lay_60 : q_cok T_X12_lay.1 (D_X12_lay.1.name == "<init>") D_X12_lay.2.2.1 D_X12_lay.2.1 ((c_X12_lay.drop 60).take 60) = true := by decide +kernel
theorem co_X12_lay_120 : q_cok T_X12_lay.1 (D_X12_lay.1.name == "<init>") D_X12_lay.2.2.1 D_X12_lay.2.1 ((c_X12_lay.drop 120).take 60) = true := by decide +kernel
set_option maxRecDepth 100000 in
theorem co_X12_lay : q_cok T_X12_lay.1 (D_X12_lay.1.name == "<init>") D_X12_lay.2.2.1 D_X12_lay.2.1 (c_X12_lay.drop 0) = true := (q_cokA 0 60 co_X12_lay_0 (q_cokA 60 60 co_X12_lay_60 (q_cokA 120 60 co_X12_lay_120 rfl)))
theorem ok_X12_lay : q_mOK T_X12_lay D_X12_lay := ⟨rfl, rfl, rfl, by decide +kernel, q_cok_of co_X12_lay⟩
theorem co_X12_ask_0 : q_cok T_X12_ask.1 (D_X12_ask.1.name == "<init>") D_X12_ask.2.2.1 D_X12_ask.2.1 ((c_X12_ask.drop 0).take 60) = true := by decide +kernel
theorem co_X12_ask_60 : q_cok T_X12_ask.1 (D_X12_ask.1.name == "<init>") D_X12_ask.2.2.1 D_X12_ask.2.1 ((c_X12_ask.drop 60).take 60) = true := by decide +kernel
set_option maxRecDepth 100000 in
theorem co_X12_ask : q_cok T_X12_ask.1 (D_X12_ask.1.name == "<init>") D_X12_ask.2.2.1 D_X12_ask.2.1 (c_X12_ask.drop 0) = true := (q_cokA 0 60 co_X12_ask_0 (q_cokA 60 60 co_X12_ask_60 rfl))
theorem ok_X12_ask : q_mOK T_X12_ask D_X12_ask := ⟨rfl, rfl, rfl, by decide +kernel, q_cok_of co_X12_ask⟩
theorem co_X12_image : q_cok T_X12_image.1 (D_X12_image.1.name == "<init>") D_X12_image.2.2.1 D_X12_image.2.1 c_X12_image = true := by decide +kernel
theorem ok_X12_image : q_mOK T_X12_image D_X12_image := ⟨rfl, rfl, rfl, by decide +kernel, q_cok_of co_X12_image⟩
theorem co_X12_back : q_cok T_X12_back.1 (D_X12_back.1.name == "<init>") D_X12_back.2.2.1 D_X12_back.2.1 c_X12_back = true := by decide +kernel
theorem ok_X12_back : q_mOK T_X12_back D_X12_back := ⟨rfl, rfl, rfl, by decide +kernel, q_cok_of co_X12_back⟩
theorem co_J6_bitCount_0f7a4 : q_cok T_J6_bitCount_0f7a4.1 (D_J6_bitCount_0f7a4.1.name == "<init>") D_J6_bitCount_0f7a4.2.2.1 D_J6_bitCount_0f7a4.2.1 c_J6_bitCount_0f7a4 = true := by decide +kernel
theorem ok_J6_bitCount_0f7a4 : q_mOK T_J6_bitCount_0f7a4 D_J6_bitCount_0f7a4 := ⟨rfl, rfl, rfl, by decide +kernel, q_cok_of co_J6_bitCount_0f7a4⟩
theorem co_J13_compare_74951 : q_cok T_J13_compare_74951.1 (D_J13_compare_74951.1.name == "<init>") D_J13_compare_74951.2.2.1 D_J13_compare_74951.2.1 c_J13_compare_74951 = true := by decide +kernel
theorem ok_J13_compare_74951 : q_mOK T_J13_compare_74951 D_J13_compare_74951 := ⟨rfl, rfl, rfl, by decide +kernel, q_cok_of co_J13_compare_74951⟩
theorem co_J7_fill_53178 : q_cok T_J7_fill_53178.1 (D_J7_fill_53178.1.name == "<init>") D_J7_fill_53178.2.2.1 D_J7_fill_53178.2.1 c_J7_fill_53178 = true := by decide +kernel
theorem ok_J7_fill_53178 : q_mOK T_J7_fill_53178 D_J7_fill_53178 := ⟨rfl, rfl, rfl, by decide +kernel, q_cok_of co_J7_fill_53178⟩
theorem co_L_law_0 : q_cok T_L_law.1 (D_L_law.1.name == "<init>") D_L_law.2.2.1 D_L_law.2.1 ((c_L_law.drop 0).take 60) = true := by decide +kernel
theorem co_L_law_60 : q_cok T_L_law.1 (D_L_law.1.name == "<init>") D_L_law.2.2.1 D_L_law.2.1 ((c_L_law.drop 60).take 60) = true := by decide +kernel
theorem co_L_law_120 : q_cok T_L_law.1 (D_L_law.1.name == "<init>") D_L_law.2.2.1 D_L_law.2.1 ((c_L_law.drop 120).take 60) = true := by decide +kernel
theorem co_L_law_180 : q_cok T_L_law.1 (D_L_law.1.name == "<init>") D_L_law.2.2.1 D_L_law.2.1 ((c_L_law.drop 180).take 60) = true := by decide +kernel
theorem co_L_law_240 : q_cok T_L_law.1 (D_L_law.1.name == "<init>") D_L_law.2.2.1 D_L_law.2.1 ((c_L_law.drop 240).take 60) = true := by decide +kernel
theorem co_L_law_300 : q_cok T_L_law.1 (D_L_law.1.name == "<init>") D_L_law.2.2.1 D_L_law.2.1 ((c_L_law.drop 300).take 60) = true := by decide +kernel
theorem co_L_law_360 : q_cok T_L_law.1 (D_L_law.1.name == "<init>") D_L_law.2.2.1 D_L_law.2.1 ((c_L_law.drop 360).take 60) = true := by decide +kernel
theorem co_L_law_420 : q_cok T_L_law.1 (D_L_law.1.name == "<init>") D_L_law.2.2.1 D_L_law.2.1 ((c_L_law.drop 420).take 60) = true := by decide +kernel
theorem co_L_law_480 : q_cok T_L_law.1 (D_L_law.1.name == "<init>") D_L_law.2.2.1 D_L_law.2.1 ((c_L_law.drop 480).take 60) = true := by decide +kernel
theorem co_L_law_540 : q_cok T_L_law.1 (D_L_law.1.name == "<init>") D_L_law.2.2.1 D_L_law.2.1 ((c_L_law.drop 540).take 60) = true := by decide +kernel
theorem co_L_law_600 : q_cok T_L_law.1 (D_L_law.1.name == "<init>") D_L_law.2.2.1 D_L_law.2.1 ((c_L_law.drop 600).take 60) = true := by decide +kernel
theorem co_L_law_660 : q_cok T_L_law.1 (D_L_law.1.name == "<init>") D_L_law.2.2.1 D_L_law.2.1 ((c_L_law.drop 660).take 60) = true := by decide +kernel
theorem co_L_law_720 : q_cok T_L_law.1 (D_L_law.1.name == "<init>") D_L_law.2.2.1 D_L_law.2.1 ((c_L_law.drop 720).take 60) = true := by decide +kernel
theorem co_L_law_780 : q_cok T_L_law.1 (D_L_law.1.name == "<init>") D_L_law.2.2.1 D_L_law.2.1 ((c_L_law.drop 780).take 60) = true := by decide +kernel
theorem co_L_law_840 : q_cok T_L_law.1 (D_L_law.1.name == "<init>") D_L_law.2.2.1 D_L_law.2.1 ((c_L_law.drop 840).take 60) = true := by decide +kernel
theorem co_L_law_900 : q_cok T_L_law.1 (D_L_law.1.name == "<init>") D_L_law.2.2.1 D_L_law.2.1 ((c_L_law.drop 900).take 60) = true := by decide +kernel
theorem co_L_law_960 : q_cok T_L_law.1 (D_L_law.1.name == "<init>") D_L_law.2.2.1 D_L_law.2.1 ((c_L_law.drop 960).take 60) = true := by decide +kernel
theorem co_L_law_1020 : q_cok T_L_law.1 (D_L_law.1.name == "<init>") D_L_law.2.2.1 D_L_law.2.1 ((c_L_law.drop 1020).take 60) = true := by decide +kernel
theorem co_L_law_1080 : q_cok T_L_law.1 (D_L_law.1.name == "<init>") D_L_law.2.2.1 D_L_law.2.1 ((c_L_law.drop 1080).take 60) = true := by decide +kernel
theorem co_L_law_1140 : q_cok T_L_law.1 (D_L_law.1.name == "<init>") D_L_law.2.2.1 D_L_law.2.1 ((c_L_law.drop 1140).take 60) = true := by decide +kernel
theorem co_L_law_1200 : q_cok T_L_law.1 (D_L_law.1.name == "<init>") D_L_law.2.2.1 D_L_law.2.1 ((c_L_law.drop 1200).take 60) = true := by decide +kernel
theorem co_L_law_1260 : q_cok T_L_law.1 (D_L_law.1.name == "<init>") D_L_law.2.2.1 D_L_law.2.1 ((c_L_law.drop 1260).take 60) = true := by decide +kernel
theorem co_L_law_1320 : q_cok T_L_law.1 (D_L_law.1.name == "<init>") D_L_law.2.2.1 D_L_law.2.1 ((c_L_law.drop 1320).take 60) = true := by decide +kernel
theorem co_L_law_1380 : q_cok T_L_law.1 (D_L_law.1.name == "<init>") D_L_law.2.2.1 D_L_law.2.1 ((c_L_law.drop 1380).take 60) = true := by decide +kernel
theorem co_L_law_1440 : q_cok T_L_law.1 (D_L_law.1.name == "<init>") D_L_law.2.2.1 D_L_law.2.1 ((c_L_law.drop 1440).take 60) = true := by decide +kernel
set_option maxRecDepth 100000 in
theorem co_L_law : q_cok T_L_law.1 (D_L_law.1.name == "<init>") D_L_law.2.2.1 D_L_law.2.1 (c_L_law.drop 0) = true := (q_cokA 0 60 co_L_law_0 (q_cokA 60 60 co_L_law_60 (q_cokA 120 60 co_L_law_120 (q_cokA 180 60 co_L_law_180 (q_cokA 240 60 co_L_law_240 (q_cokA 300 60 co_L_law_300 (q_cokA 360 60 co_L_law_360 (q_cokA 420 60 co_L_law_420 (q_cokA 480 60 co_L_law_480 (q_cokA 540 60 co_L_law_540 (q_cokA 600 60 co_L_law_600 (q_cokA 660 60 co_L_law_660 (q_cokA 720 60 co_L_law_720 (q_cokA 780 60 co_L_law_780 (q_cokA 840 60 co_L_law_840 (q_cokA 900 60 co_L_law_900 (q_cokA 960 60 co_L_law_960 (q_cokA 1020 60 co_L_law_1020 (q_cokA 1080 60 co_L_law_1080 (q_cokA 1140 60 co_L_law_1140 (q_cokA 1200 60 co_L_law_1200 (q_cokA 1260 60 co_L_law_1260 (q_cokA 1320 60 co_L_law_1320 (q_cokA 1380 60 co_L_law_1380 (q_cokA 1440 60 co_L_law_1440 rfl)))))))))))))))))))))))))
theorem ok_L_law : q_mOK T_L_law D_L_law := ⟨rfl, rfl, rfl, by decide +kernel, q_cok_of co_L_law⟩
