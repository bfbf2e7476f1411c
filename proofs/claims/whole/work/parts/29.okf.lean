/-! ===== METHODS' ROWS ===== -/
theorem co_X12_between : q_cok T_X12_between.1 (D_X12_between.1.name == "<init>") D_X12_between.2.2.1 D_X12_between.2.1 c_X12_between = true := by decide +kernel
theorem ok_X12_between : q_mOK T_X12_between D_X12_between := ⟨rfl, rfl, rfl, by decide +kernel, q_cok_of co_X12_between⟩
theorem co_X12_beyond : q_cok T_X12_beyond.1 (D_X12_beyond.1.name == "<init>") D_X12_beyond.2.2.1 D_X12_beyond.2.1 c_X12_beyond = true := by decide +kernel
theorem ok_X12_beyond : q_mOK T_X12_beyond D_X12_beyond := ⟨rfl, rfl, rfl, by decide +kernel, q_cok_of co_X12_beyond⟩
theorem co_X12_jump : q_cok T_X12_jump.1 (D_X12_jump.1.name == "<init>") D_X12_jump.2.2.1 D_X12_jump.2.1 c_X12_jump = true := by decide +kernel
theorem ok_X12_jump : q_mOK T_X12_jump D_X12_jump := ⟨rfl, rfl, rfl, by decide +kernel, q_cok_of co_X12_jump⟩
theorem co_X12_opens : q_cok T_X12_opens.1 (D_X12_opens.1.name == "<init>") D_X12_opens.2.2.1 D_X12_opens.2.1 c_X12_opens = true := by decide +kernel
theorem ok_X12_opens : q_mOK T_X12_opens D_X12_opens := ⟨rfl, rfl, rfl, by decide +kernel, q_cok_of co_X12_opens⟩
theorem co_X12_held : q_cok T_X12_held.1 (D_X12_held.1.name == "<init>") D_X12_held.2.2.1 D_X12_held.2.1 c_X12_held = true := by decide +kernel
theorem ok_X12_held : q_mOK T_X12_held D_X12_held := ⟨rfl, rfl, rfl, by decide +kernel, q_cok_of co_X12_held⟩
theorem co_X12_pages : q_cok T_X12_pages.1 (D_X12_pages.1.name == "<init>") D_X12_pages.2.2.1 D_X12_pages.2.1 c_X12_pages = true := by decide +kernel
theorem ok_X12_pages : q_mOK T_X12_pages D_X12_pages := ⟨rfl, rfl, rfl, by decide +kernel, q_cok_of co_X12_pages⟩
theorem co_X12_curveOf : q_cok T_X12_curveOf.1 (D_X12_curveOf.1.name == "<init>") D_X12_curveOf.2.2.1 D_X12_curveOf.2.1 c_X12_curveOf = true := by decide +kernel
theorem ok_X12_curveOf : q_mOK T_X12_curveOf D_X12_curveOf := ⟨rfl, rfl, rfl, by decide +kernel, q_cok_of co_X12_curveOf⟩
theorem co_X12_point : q_cok T_X12_point.1 (D_X12_point.1.name == "<init>") D_X12_point.2.2.1 D_X12_point.2.1 c_X12_point = true := by decide +kernel
theorem ok_X12_point : q_mOK T_X12_point D_X12_point := ⟨rfl, rfl, rfl, by decide +kernel, q_cok_of co_X12_point⟩
theorem co_X12_onPage : q_cok T_X12_onPage.1 (D_X12_onPage.1.name == "<init>") D_X12_onPage.2.2.1 D_X12_onPage.2.1 c_X12_onPage = true := by decide +kernel
theorem ok_X12_onPage : q_mOK T_X12_onPage D_X12_onPage := ⟨rfl, rfl, rfl, by decide +kernel, q_cok_of co_X12_onPage⟩
theorem co_X12_shelf : q_cok T_X12_shelf.1 (D_X12_shelf.1.name == "<init>") D_X12_shelf.2.2.1 D_X12_shelf.2.1 c_X12_shelf = true := by decide +kernel
theorem ok_X12_shelf : q_mOK T_X12_shelf D_X12_shelf := ⟨rfl, rfl, rfl, by decide +kernel, q_cok_of co_X12_shelf⟩
theorem co_X12_keeps_0 : q_cok T_X12_keeps.1 (D_X12_keeps.1.name == "<init>") D_X12_keeps.2.2.1 D_X12_keeps.2.1 ((c_X12_keeps.drop 0).take 60) = true := by decide +kernel
theorem co_X12_keeps_60 : q_cok T_X12_keeps.1 (D_X12_keeps.1.name == "<init>") D_X12_keeps.2.2.1 D_X12_keeps.2.1 ((c_X12_keeps.drop 60).take 60) = true := by decide +kernel
set_option maxRecDepth 100000 in
theorem co_X12_keeps : q_cok T_X12_keeps.1 (D_X12_keeps.1.name == "<init>") D_X12_keeps.2.2.1 D_X12_keeps.2.1 (c_X12_keeps.drop 0) = true := (q_cokA 0 60 co_X12_keeps_0 (q_cokA 60 60 co_X12_keeps_60 rfl))
theorem ok_X12_keeps : q_mOK T_X12_keeps D_X12_keeps := ⟨rfl, rfl, rfl, by decide +kernel, q_cok_of co_X12_keeps⟩
theorem co_X12_undo : q_cok T_X12_undo.1 (D_X12_undo.1.name == "<init>") D_X12_undo.2.2.1 D_X12_undo.2.1 c_X12_undo = true := by decide +kernel
theorem ok_X12_undo : q_mOK T_X12_undo D_X12_undo := ⟨rfl, rfl, rfl, by decide +kernel, q_cok_of co_X12_undo⟩
theorem co_X12_named : q_cok T_X12_named.1 (D_X12_named.1.name == "<init>") D_X12_named.2.2.1 D_X12_named.2.1 c_X12_named = true := by decide +kernel
theorem ok_X12_named : q_mOK T_X12_named D_X12_named := ⟨rfl, rfl, rfl, by decide +kernel, q_cok_of co_X12_named⟩
theorem co_X12_find : q_cok T_X12_find.1 (D_X12_find.1.name == "<init>") D_X12_find.2.2.1 D_X12_find.2.1 c_X12_find = true := by decide +kernel
theorem ok_X12_find : q_mOK T_X12_find D_X12_find := ⟨rfl, rfl, rfl, by decide +kernel, q_cok_of co_X12_find⟩
theorem co_X12_pageOf : q_cok T_X12_pageOf.1 (D_X12_pageOf.1.name == "<init>") D_X12_pageOf.2.2.1 D_X12_pageOf.2.1 c_X12_pageOf = true := by decide +kernel
theorem ok_X12_pageOf : q_mOK T_X12_pageOf D_X12_pageOf := ⟨rfl, rfl, rfl, by decide +kernel, q_cok_of co_X12_pageOf⟩
theorem co_X12_beginOf : q_cok T_X12_beginOf.1 (D_X12_beginOf.1.name == "<init>") D_X12_beginOf.2.2.1 D_X12_beginOf.2.1 c_X12_beginOf = true := by decide +kernel
theorem ok_X12_beginOf : q_mOK T_X12_beginOf D_X12_beginOf := ⟨rfl, rfl, rfl, by decide +kernel, q_cok_of co_X12_beginOf⟩
theorem co_X12_pageComes : q_cok T_X12_pageComes.1 (D_X12_pageComes.1.name == "<init>") D_X12_pageComes.2.2.1 D_X12_pageComes.2.1 c_X12_pageComes = true := by decide +kernel
theorem ok_X12_pageComes : q_mOK T_X12_pageComes D_X12_pageComes := ⟨rfl, rfl, rfl, by decide +kernel, q_cok_of co_X12_pageComes⟩
theorem co_X12_pageGoes : q_cok T_X12_pageGoes.1 (D_X12_pageGoes.1.name == "<init>") D_X12_pageGoes.2.2.1 D_X12_pageGoes.2.1 c_X12_pageGoes = true := by decide +kernel
theorem ok_X12_pageGoes : q_mOK T_X12_pageGoes D_X12_pageGoes := ⟨rfl, rfl, rfl, by decide +kernel, q_cok_of co_X12_pageGoes⟩
theorem co_X12_comes_0 : q_cok T_X12_comes.1 (D_X12_comes.1.name == "<init>") D_X12_comes.2.2.1 D_X12_comes.2.1 ((c_X12_comes.drop 0).take 60) = true := by decide +kernel
theorem co_X12_comes_60 : q_cok T_X12_comes.1 (D_X12_comes.1.name == "<init>") D_X12_comes.2.2.1 D_X12_comes.2.1 ((c_X12_comes.drop 60).take 60) = true := by decide +kernel
theorem co_X12_comes_120 : q_cok T_X12_comes.1 (D_X12_comes.1.name == "<init>") D_X12_comes.2.2.1 D_X12_comes.2.1 ((c_X12_comes.drop 120).take 60) = true := by decide +kernel
theorem co_X12_comes_180 : q_cok T_X12_comes.1 (D_X12_comes.1.name == "<init>") D_X12_comes.2.2.1 D_X12_comes.2.1 ((c_X12_comes.drop 180).take 60) = true := by decide +kernel
set_option maxRecDepth 100000 in
theorem co_X12_comes : q_cok T_X12_comes.1 (D_X12_comes.1.name == "<init>") D_X12_comes.2.2.1 D_X12_comes.2.1 (c_X12_comes.drop 0) = true := (q_cokA 0 60 co_X12_comes_0 (q_cokA 60 60 co_X12_comes_60 (q_cokA 120 60 co_X12_comes_120 (q_cokA 180 60 co_X12_comes_180 rfl))))
theorem ok_X12_comes : q_mOK T_X12_comes D_X12_comes := ⟨rfl, rfl, rfl, by decide +kernel, q_cok_of co_X12_comes⟩
theorem co_X12_goes_0 : q_cok T_X12_goes.1 (D_X12_goes.1.name == "<init>") D_X12_goes.2.2.1 D_X12_goes.2.1 ((c_X12_goes.drop 0).take 60) = true := by decide +kernel
theorem co_X12_goes_60 : q_cok T_X12_goes.1 (D_X12_goes.1.name == "<init>") D_X12_goes.2.2.1 D_X12_goes.2.1 ((c_X12_goes.drop 60).take 60) = true := by decide +kernel
theorem co_X12_goes_120 : q_cok T_X12_goes.1 (D_X12_goes.1.name == "<init>") D_X12_goes.2.2.1 D_X12_goes.2.1 ((c_X12_goes.drop 120).take 60) = true := by decide +kernel
set_option maxRecDepth 100000 in
theorem co_X12_goes : q_cok T_X12_goes.1 (D_X12_goes.1.name == "<init>") D_X12_goes.2.2.1 D_X12_goes.2.1 (c_X12_goes.drop 0) = true := (q_cokA 0 60 co_X12_goes_0 (q_cokA 60 60 co_X12_goes_60 (q_cokA 120 60 co_X12_goes_120 rfl)))
theorem ok_X12_goes : q_mOK T_X12_goes D_X12_goes := ⟨rfl, rfl, rfl, by decide +kernel, q_cok_of co_X12_goes⟩
theorem co_X12_put : q_cok T_X12_put.1 (D_X12_put.1.name == "<init>") D_X12_put.2.2.1 D_X12_put.2.1 c_X12_put = true := by decide +kernel
theorem ok_X12_put : q_mOK T_X12_put D_X12_put := ⟨rfl, rfl, rfl, by decide +kernel, q_cok_of co_X12_put⟩
theorem co_X12_drop : q_cok T_X12_drop.1 (D_X12_drop.1.name == "<init>") D_X12_drop.2.2.1 D_X12_drop.2.1 c_X12_drop = true := by decide +kernel
theorem ok_X12_drop : q_mOK T_X12_drop D_X12_drop := ⟨rfl, rfl, rfl, by decide +kernel, q_cok_of co_X12_drop⟩
theorem co_X12_move : q_cok T_X12_move.1 (D_X12_move.1.name == "<init>") D_X12_move.2.2.1 D_X12_move.2.1 c_X12_move = true := by decide +kernel
theorem ok_X12_move : q_mOK T_X12_move D_X12_move := ⟨rfl, rfl, rfl, by decide +kernel, q_cok_of co_X12_move⟩
theorem co_X12_sow_0 : q_cok T_X12_sow.1 (D_X12_sow.1.name == "<init>") D_X12_sow.2.2.1 D_X12_sow.2.1 ((c_X12_sow.drop 0).take 60) = true := by decide +kernel
theorem co_X12_sow_60 : q_cok T_X12_sow.1 (D_X12_sow.1.name == "<init>") D_X12_sow.2.2.1 D_X12_sow.2.1 ((c_X12_sow.drop 60).take 60) = true := by decide +kernel
set_option maxRecDepth 100000 in
theorem co_X12_sow : q_cok T_X12_sow.1 (D_X12_sow.1.name == "<init>") D_X12_sow.2.2.1 D_X12_sow.2.1 (c_X12_sow.drop 0) = true := (q_cokA 0 60 co_X12_sow_0 (q_cokA 60 60 co_X12_sow_60 rfl))
theorem ok_X12_sow : q_mOK T_X12_sow D_X12_sow := ⟨rfl, rfl, rfl, by decide +kernel, q_cok_of co_X12_sow⟩
theorem co_X12_at : q_cok T_X12_at.1 (D_X12_at.1.name == "<init>") D_X12_at.2.2.1 D_X12_at.2.1 c_X12_at = true := by decide +kernel
theorem ok_X12_at : q_mOK T_X12_at D_X12_at := ⟨rfl, rfl, rfl, by decide +kernel, q_cok_of co_X12_at⟩
theorem co_X12_weightOf : q_cok T_X12_weightOf.1 (D_X12_weightOf.1.name == "<init>") D_X12_weightOf.2.2.1 D_X12_weightOf.2.1 c_X12_weightOf = true := by decide +kernel
theorem ok_X12_weightOf : q_mOK T_X12_weightOf D_X12_weightOf := ⟨rfl, rfl, rfl, by decide +kernel, q_cok_of co_X12_weightOf⟩
theorem co_X12_count : q_cok T_X12_count.1 (D_X12_count.1.name == "<init>") D_X12_count.2.2.1 D_X12_count.2.1 c_X12_count = true := by decide +kernel
theorem ok_X12_count : q_mOK T_X12_count D_X12_count := ⟨rfl, rfl, rfl, by decide +kernel, q_cok_of co_X12_count⟩
theorem co_X12_bounds_0 : q_cok T_X12_bounds.1 (D_X12_bounds.1.name == "<init>") D_X12_bounds.2.2.1 D_X12_bounds.2.1 ((c_X12_bounds.drop 0).take 60) = true := by decide +kernel
theorem co_X12_bounds_60 : q_cok T_X12_bounds.1 (D_X12_bounds.1.name == "<init>") D_X12_bounds.2.2.1 D_X12_bounds.2.1 ((c_X12_bounds.drop 60).take 60) = true := by decide +kernel
set_option maxRecDepth 100000 in
theorem co_X12_bounds : q_cok T_X12_bounds.1 (D_X12_bounds.1.name == "<init>") D_X12_bounds.2.2.1 D_X12_bounds.2.1 (c_X12_bounds.drop 0) = true := (q_cokA 0 60 co_X12_bounds_0 (q_cokA 60 60 co_X12_bounds_60 rfl))
theorem ok_X12_bounds : q_mOK T_X12_bounds D_X12_bounds := ⟨rfl, rfl, rfl, by decide +kernel, q_cok_of co_X12_bounds⟩
theorem co_X12_page_0 : q_cok T_X12_page.1 (D_X12_page.1.name == "<init>") D_X12_page.2.2.1 D_X12_page.2.1 ((c_X12_page.drop 0).take 60) = true := by decide +kernel
theorem co_X12_page_60 : q_cok T_X12_page.1 (D_X12_page.1.name == "<init>") D_X12_page.2.2.1 D_X12_page.2.1 ((c_X12_page.drop 60).take 60) = true := by decide +kernel
set_option maxRecDepth 100000 in
theorem co_X12_page : q_cok T_X12_page.1 (D_X12_page.1.name == "<init>") D_X12_page.2.2.1 D_X12_page.2.1 (c_X12_page.drop 0) = true := (q_cokA 0 60 co_X12_page_0 (q_cokA 60 60 co_X12_page_60 rfl))
theorem ok_X12_page : q_mOK T_X12_page D_X12_page := ⟨rfl, rfl, rfl, by decide +kernel, q_cok_of co_X12_page⟩
