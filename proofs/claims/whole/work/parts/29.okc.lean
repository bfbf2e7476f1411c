/-! ===== METHODS' ROWS ===== -/
theorem co_X10_meets_0 : q_cok T_X10_meets.1 (D_X10_meets.1.name == "<init>") D_X10_meets.2.2.1 D_X10_meets.2.1 ((c_X10_meets.drop 0).take 60) = true := by decide +kernel
theorem co_X10_meets_60 : q_cok T_X10_meets.1 (D_X10_meets.1.name == "<init>") D_X10_meets.2.2.1 D_X10_meets.2.1 ((c_X10_meets.drop 60).take 60) = true := by decide +kernel
set_option maxRecDepth 100000 in
theorem co_X10_meets : q_cok T_X10_meets.1 (D_X10_meets.1.name == "<init>") D_X10_meets.2.2.1 D_X10_meets.2.1 (c_X10_meets.drop 0) = true := (q_cokA 0 60 co_X10_meets_0 (q_cokA 60 60 co_X10_meets_60 rfl))
theorem ok_X10_meets : q_mOK T_X10_meets D_X10_meets := ⟨rfl, rfl, rfl, by decide +kernel, q_cok_of co_X10_meets⟩
theorem co_X11_init : q_cok T_X11_init.1 (D_X11_init.1.name == "<init>") D_X11_init.2.2.1 D_X11_init.2.1 c_X11_init = true := by decide +kernel
theorem ok_X11_init : q_mOK T_X11_init D_X11_init := ⟨rfl, rfl, rfl, by decide +kernel, q_cok_of co_X11_init⟩
theorem co_X11_curve_0 : q_cok T_X11_curve.1 (D_X11_curve.1.name == "<init>") D_X11_curve.2.2.1 D_X11_curve.2.1 ((c_X11_curve.drop 0).take 60) = true := by decide +kernel
theorem co_X11_curve_60 : q_cok T_X11_curve.1 (D_X11_curve.1.name == "<init>") D_X11_curve.2.2.1 D_X11_curve.2.1 ((c_X11_curve.drop 60).take 60) = true := by decide +kernel
set_option maxRecDepth 100000 in
theorem co_X11_curve : q_cok T_X11_curve.1 (D_X11_curve.1.name == "<init>") D_X11_curve.2.2.1 D_X11_curve.2.1 (c_X11_curve.drop 0) = true := (q_cokA 0 60 co_X11_curve_0 (q_cokA 60 60 co_X11_curve_60 rfl))
theorem ok_X11_curve : q_mOK T_X11_curve D_X11_curve := ⟨rfl, rfl, rfl, by decide +kernel, q_cok_of co_X11_curve⟩
theorem co_X11_number : q_cok T_X11_number.1 (D_X11_number.1.name == "<init>") D_X11_number.2.2.1 D_X11_number.2.1 c_X11_number = true := by decide +kernel
theorem ok_X11_number : q_mOK T_X11_number D_X11_number := ⟨rfl, rfl, rfl, by decide +kernel, q_cok_of co_X11_number⟩
theorem co_X11_place : q_cok T_X11_place.1 (D_X11_place.1.name == "<init>") D_X11_place.2.2.1 D_X11_place.2.1 c_X11_place = true := by decide +kernel
theorem ok_X11_place : q_mOK T_X11_place D_X11_place := ⟨rfl, rfl, rfl, by decide +kernel, q_cok_of co_X11_place⟩
theorem co_X11_size : q_cok T_X11_size.1 (D_X11_size.1.name == "<init>") D_X11_size.2.2.1 D_X11_size.2.1 c_X11_size = true := by decide +kernel
theorem ok_X11_size : q_mOK T_X11_size D_X11_size := ⟨rfl, rfl, rfl, by decide +kernel, q_cok_of co_X11_size⟩
theorem co_X11_gap_0 : q_cok T_X11_gap.1 (D_X11_gap.1.name == "<init>") D_X11_gap.2.2.1 D_X11_gap.2.1 ((c_X11_gap.drop 0).take 60) = true := by decide +kernel
theorem co_X11_gap_60 : q_cok T_X11_gap.1 (D_X11_gap.1.name == "<init>") D_X11_gap.2.2.1 D_X11_gap.2.1 ((c_X11_gap.drop 60).take 60) = true := by decide +kernel
set_option maxRecDepth 100000 in
theorem co_X11_gap : q_cok T_X11_gap.1 (D_X11_gap.1.name == "<init>") D_X11_gap.2.2.1 D_X11_gap.2.1 (c_X11_gap.drop 0) = true := (q_cokA 0 60 co_X11_gap_0 (q_cokA 60 60 co_X11_gap_60 rfl))
theorem ok_X11_gap : q_mOK T_X11_gap D_X11_gap := ⟨rfl, rfl, rfl, by decide +kernel, q_cok_of co_X11_gap⟩
theorem co_X11_canBeCurve_0 : q_cok T_X11_canBeCurve.1 (D_X11_canBeCurve.1.name == "<init>") D_X11_canBeCurve.2.2.1 D_X11_canBeCurve.2.1 ((c_X11_canBeCurve.drop 0).take 60) = true := by decide +kernel
theorem co_X11_canBeCurve_60 : q_cok T_X11_canBeCurve.1 (D_X11_canBeCurve.1.name == "<init>") D_X11_canBeCurve.2.2.1 D_X11_canBeCurve.2.1 ((c_X11_canBeCurve.drop 60).take 60) = true := by decide +kernel
set_option maxRecDepth 100000 in
theorem co_X11_canBeCurve : q_cok T_X11_canBeCurve.1 (D_X11_canBeCurve.1.name == "<init>") D_X11_canBeCurve.2.2.1 D_X11_canBeCurve.2.1 (c_X11_canBeCurve.drop 0) = true := (q_cokA 0 60 co_X11_canBeCurve_0 (q_cokA 60 60 co_X11_canBeCurve_60 rfl))
theorem ok_X11_canBeCurve : q_mOK T_X11_canBeCurve D_X11_canBeCurve := ⟨rfl, rfl, rfl, by decide +kernel, q_cok_of co_X11_canBeCurve⟩
theorem co_X11_curveAt : q_cok T_X11_curveAt.1 (D_X11_curveAt.1.name == "<init>") D_X11_curveAt.2.2.1 D_X11_curveAt.2.1 c_X11_curveAt = true := by decide +kernel
theorem ok_X11_curveAt : q_mOK T_X11_curveAt D_X11_curveAt := ⟨rfl, rfl, ⟨_, rfl, Or.inl ⟨_, rfl⟩⟩, by decide +kernel, q_cok_of co_X11_curveAt⟩
theorem co_X11_shelf : q_cok T_X11_shelf.1 (D_X11_shelf.1.name == "<init>") D_X11_shelf.2.2.1 D_X11_shelf.2.1 c_X11_shelf = true := by decide +kernel
theorem ok_X11_shelf : q_mOK T_X11_shelf D_X11_shelf := ⟨rfl, rfl, rfl, by decide +kernel, q_cok_of co_X11_shelf⟩
theorem co_X11_put_0 : q_cok T_X11_put.1 (D_X11_put.1.name == "<init>") D_X11_put.2.2.1 D_X11_put.2.1 ((c_X11_put.drop 0).take 60) = true := by decide +kernel
theorem co_X11_put_60 : q_cok T_X11_put.1 (D_X11_put.1.name == "<init>") D_X11_put.2.2.1 D_X11_put.2.1 ((c_X11_put.drop 60).take 60) = true := by decide +kernel
set_option maxRecDepth 100000 in
theorem co_X11_put : q_cok T_X11_put.1 (D_X11_put.1.name == "<init>") D_X11_put.2.2.1 D_X11_put.2.1 (c_X11_put.drop 0) = true := (q_cokA 0 60 co_X11_put_0 (q_cokA 60 60 co_X11_put_60 rfl))
theorem ok_X11_put : q_mOK T_X11_put D_X11_put := ⟨rfl, rfl, rfl, by decide +kernel, q_cok_of co_X11_put⟩
theorem co_X11_drop : q_cok T_X11_drop.1 (D_X11_drop.1.name == "<init>") D_X11_drop.2.2.1 D_X11_drop.2.1 c_X11_drop = true := by decide +kernel
theorem ok_X11_drop : q_mOK T_X11_drop D_X11_drop := ⟨rfl, rfl, rfl, by decide +kernel, q_cok_of co_X11_drop⟩
theorem co_X11_move_0 : q_cok T_X11_move.1 (D_X11_move.1.name == "<init>") D_X11_move.2.2.1 D_X11_move.2.1 ((c_X11_move.drop 0).take 60) = true := by decide +kernel
theorem co_X11_move_60 : q_cok T_X11_move.1 (D_X11_move.1.name == "<init>") D_X11_move.2.2.1 D_X11_move.2.1 ((c_X11_move.drop 60).take 60) = true := by decide +kernel
set_option maxRecDepth 100000 in
theorem co_X11_move : q_cok T_X11_move.1 (D_X11_move.1.name == "<init>") D_X11_move.2.2.1 D_X11_move.2.1 (c_X11_move.drop 0) = true := (q_cokA 0 60 co_X11_move_0 (q_cokA 60 60 co_X11_move_60 rfl))
theorem ok_X11_move : q_mOK T_X11_move D_X11_move := ⟨rfl, rfl, rfl, by decide +kernel, q_cok_of co_X11_move⟩
theorem co_X11_sow_0 : q_cok T_X11_sow.1 (D_X11_sow.1.name == "<init>") D_X11_sow.2.2.1 D_X11_sow.2.1 ((c_X11_sow.drop 0).take 60) = true := by decide +kernel
theorem co_X11_sow_60 : q_cok T_X11_sow.1 (D_X11_sow.1.name == "<init>") D_X11_sow.2.2.1 D_X11_sow.2.1 ((c_X11_sow.drop 60).take 60) = true := by decide +kernel
set_option maxRecDepth 100000 in
theorem co_X11_sow : q_cok T_X11_sow.1 (D_X11_sow.1.name == "<init>") D_X11_sow.2.2.1 D_X11_sow.2.1 (c_X11_sow.drop 0) = true := (q_cokA 0 60 co_X11_sow_0 (q_cokA 60 60 co_X11_sow_60 rfl))
theorem ok_X11_sow : q_mOK T_X11_sow D_X11_sow := ⟨rfl, rfl, rfl, by decide +kernel, q_cok_of co_X11_sow⟩
theorem co_X11_find : q_cok T_X11_find.1 (D_X11_find.1.name == "<init>") D_X11_find.2.2.1 D_X11_find.2.1 c_X11_find = true := by decide +kernel
theorem ok_X11_find : q_mOK T_X11_find D_X11_find := ⟨rfl, rfl, rfl, by decide +kernel, q_cok_of co_X11_find⟩
theorem co_X11_at : q_cok T_X11_at.1 (D_X11_at.1.name == "<init>") D_X11_at.2.2.1 D_X11_at.2.1 c_X11_at = true := by decide +kernel
theorem ok_X11_at : q_mOK T_X11_at D_X11_at := ⟨rfl, rfl, rfl, by decide +kernel, q_cok_of co_X11_at⟩
theorem co_X11_count : q_cok T_X11_count.1 (D_X11_count.1.name == "<init>") D_X11_count.2.2.1 D_X11_count.2.1 c_X11_count = true := by decide +kernel
theorem ok_X11_count : q_mOK T_X11_count D_X11_count := ⟨rfl, rfl, rfl, by decide +kernel, q_cok_of co_X11_count⟩
theorem co_X11_page : q_cok T_X11_page.1 (D_X11_page.1.name == "<init>") D_X11_page.2.2.1 D_X11_page.2.1 c_X11_page = true := by decide +kernel
theorem ok_X11_page : q_mOK T_X11_page D_X11_page := ⟨rfl, rfl, rfl, by decide +kernel, q_cok_of co_X11_page⟩
theorem co_X11_undo : q_cok T_X11_undo.1 (D_X11_undo.1.name == "<init>") D_X11_undo.2.2.1 D_X11_undo.2.1 c_X11_undo = true := by decide +kernel
theorem ok_X11_undo : q_mOK T_X11_undo D_X11_undo := ⟨rfl, rfl, rfl, by decide +kernel, q_cok_of co_X11_undo⟩
theorem co_X11_shelfAt : q_cok T_X11_shelfAt.1 (D_X11_shelfAt.1.name == "<init>") D_X11_shelfAt.2.2.1 D_X11_shelfAt.2.1 c_X11_shelfAt = true := by decide +kernel
theorem ok_X11_shelfAt : q_mOK T_X11_shelfAt D_X11_shelfAt := ⟨rfl, rfl, ⟨_, rfl, Or.inl ⟨_, rfl⟩⟩, by decide +kernel, q_cok_of co_X11_shelfAt⟩
theorem co_X11_drawAfter : q_cok T_X11_drawAfter.1 (D_X11_drawAfter.1.name == "<init>") D_X11_drawAfter.2.2.1 D_X11_drawAfter.2.1 c_X11_drawAfter = true := by decide +kernel
theorem ok_X11_drawAfter : q_mOK T_X11_drawAfter D_X11_drawAfter := ⟨rfl, rfl, rfl, by decide +kernel, q_cok_of co_X11_drawAfter⟩
theorem co_X11_drawn : q_cok T_X11_drawn.1 (D_X11_drawn.1.name == "<init>") D_X11_drawn.2.2.1 D_X11_drawn.2.1 c_X11_drawn = true := by decide +kernel
theorem ok_X11_drawn : q_mOK T_X11_drawn D_X11_drawn := ⟨rfl, rfl, rfl, by decide +kernel, q_cok_of co_X11_drawn⟩
theorem co_X11_takeFreeName : q_cok T_X11_takeFreeName.1 (D_X11_takeFreeName.1.name == "<init>") D_X11_takeFreeName.2.2.1 D_X11_takeFreeName.2.1 c_X11_takeFreeName = true := by decide +kernel
theorem ok_X11_takeFreeName : q_mOK T_X11_takeFreeName D_X11_takeFreeName := ⟨rfl, rfl, rfl, by decide +kernel, q_cok_of co_X11_takeFreeName⟩
theorem co_X11_low : q_cok T_X11_low.1 (D_X11_low.1.name == "<init>") D_X11_low.2.2.1 D_X11_low.2.1 c_X11_low = true := by decide +kernel
theorem ok_X11_low : q_mOK T_X11_low D_X11_low := ⟨rfl, rfl, rfl, by decide +kernel, q_cok_of co_X11_low⟩
theorem co_X11_high : q_cok T_X11_high.1 (D_X11_high.1.name == "<init>") D_X11_high.2.2.1 D_X11_high.2.1 c_X11_high = true := by decide +kernel
theorem ok_X11_high : q_mOK T_X11_high D_X11_high := ⟨rfl, rfl, rfl, by decide +kernel, q_cok_of co_X11_high⟩
theorem co_X11_spans : q_cok T_X11_spans.1 (D_X11_spans.1.name == "<init>") D_X11_spans.2.2.1 D_X11_spans.2.1 c_X11_spans = true := by decide +kernel
theorem ok_X11_spans : q_mOK T_X11_spans D_X11_spans := ⟨rfl, rfl, rfl, by decide +kernel, q_cok_of co_X11_spans⟩
theorem co_X11_span : q_cok T_X11_span.1 (D_X11_span.1.name == "<init>") D_X11_span.2.2.1 D_X11_span.2.1 c_X11_span = true := by decide +kernel
theorem ok_X11_span : q_mOK T_X11_span D_X11_span := ⟨rfl, rfl, rfl, by decide +kernel, q_cok_of co_X11_span⟩
theorem co_X11_few : q_cok T_X11_few.1 (D_X11_few.1.name == "<init>") D_X11_few.2.2.1 D_X11_few.2.1 c_X11_few = true := by decide +kernel
theorem ok_X11_few : q_mOK T_X11_few D_X11_few := ⟨rfl, rfl, rfl, by decide +kernel, q_cok_of co_X11_few⟩
theorem co_X11_beyond : q_cok T_X11_beyond.1 (D_X11_beyond.1.name == "<init>") D_X11_beyond.2.2.1 D_X11_beyond.2.1 c_X11_beyond = true := by decide +kernel
theorem ok_X11_beyond : q_mOK T_X11_beyond D_X11_beyond := ⟨rfl, rfl, rfl, by decide +kernel, q_cok_of co_X11_beyond⟩
theorem co_X11_jump : q_cok T_X11_jump.1 (D_X11_jump.1.name == "<init>") D_X11_jump.2.2.1 D_X11_jump.2.1 c_X11_jump = true := by decide +kernel
theorem ok_X11_jump : q_mOK T_X11_jump D_X11_jump := ⟨rfl, rfl, rfl, by decide +kernel, q_cok_of co_X11_jump⟩
theorem co_X11_enterWindow_0 : q_cok T_X11_enterWindow.1 (D_X11_enterWindow.1.name == "<init>") D_X11_enterWindow.2.2.1 D_X11_enterWindow.2.1 ((c_X11_enterWindow.drop 0).take 60) = true := by decide +kernel
theorem co_X11_enterWindow_60 : q_cok T_X11_enterWindow.1 (D_X11_enterWindow.1.name == "<init>") D_X11_enterWindow.2.2.1 D_X11_enterWindow.2.1 ((c_X11_enterWindow.drop 60).take 60) = true := by decide +kernel
set_option maxRecDepth 100000 in
theorem co_X11_enterWindow : q_cok T_X11_enterWindow.1 (D_X11_enterWindow.1.name == "<init>") D_X11_enterWindow.2.2.1 D_X11_enterWindow.2.1 (c_X11_enterWindow.drop 0) = true := (q_cokA 0 60 co_X11_enterWindow_0 (q_cokA 60 60 co_X11_enterWindow_60 rfl))
theorem ok_X11_enterWindow : q_mOK T_X11_enterWindow D_X11_enterWindow := ⟨rfl, rfl, rfl, by decide +kernel, q_cok_of co_X11_enterWindow⟩
theorem co_X11_gatherSpans_0 : q_cok T_X11_gatherSpans.1 (D_X11_gatherSpans.1.name == "<init>") D_X11_gatherSpans.2.2.1 D_X11_gatherSpans.2.1 ((c_X11_gatherSpans.drop 0).take 60) = true := by decide +kernel
theorem co_X11_gatherSpans_60 : q_cok T_X11_gatherSpans.1 (D_X11_gatherSpans.1.name == "<init>") D_X11_gatherSpans.2.2.1 D_X11_gatherSpans.2.1 ((c_X11_gatherSpans.drop 60).take 60) = true := by decide +kernel
set_option maxRecDepth 100000 in
theorem co_X11_gatherSpans : q_cok T_X11_gatherSpans.1 (D_X11_gatherSpans.1.name == "<init>") D_X11_gatherSpans.2.2.1 D_X11_gatherSpans.2.1 (c_X11_gatherSpans.drop 0) = true := (q_cokA 0 60 co_X11_gatherSpans_0 (q_cokA 60 60 co_X11_gatherSpans_60 rfl))
theorem ok_X11_gatherSpans : q_mOK T_X11_gatherSpans D_X11_gatherSpans := ⟨rfl, rfl, rfl, by decide +kernel, q_cok_of co_X11_gatherSpans⟩
theorem co_X11_points_0 : q_cok T_X11_points.1 (D_X11_points.1.name == "<init>") D_X11_points.2.2.1 D_X11_points.2.1 ((c_X11_points.drop 0).take 60) = true := by decide +kernel
theorem co_X11_points_60 : q_cok T_X11_points.1 (D_X11_points.1.name == "<init>") D_X11_points.2.2.1 D_X11_points.2.1 ((c_X11_points.drop 60).take 60) = true := by decide +kernel
set_option maxRecDepth 100000 in
theorem co_X11_points : q_cok T_X11_points.1 (D_X11_points.1.name == "<init>") D_X11_points.2.2.1 D_X11_points.2.1 (c_X11_points.drop 0) = true := (q_cokA 0 60 co_X11_points_0 (q_cokA 60 60 co_X11_points_60 rfl))
theorem ok_X11_points : q_mOK T_X11_points D_X11_points := ⟨rfl, rfl, rfl, by decide +kernel, q_cok_of co_X11_points⟩
