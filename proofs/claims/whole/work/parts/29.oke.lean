/-! ===== METHODS' ROWS ===== -/
theorem co_X12_size : q_cok T_X12_size.1 (D_X12_size.1.name == "<init>") D_X12_size.2.2.1 D_X12_size.2.1 c_X12_size = true := by decide +kernel
theorem ok_X12_size : q_mOK T_X12_size D_X12_size := ⟨rfl, rfl, rfl, by decide +kernel, q_cok_of co_X12_size⟩
theorem co_X12_lays_0 : q_cok T_X12_lays.1 (D_X12_lays.1.name == "<init>") D_X12_lays.2.2.1 D_X12_lays.2.1 ((c_X12_lays.drop 0).take 60) = true := by decide +kernel
theorem co_X12_lays_60 : q_cok T_X12_lays.1 (D_X12_lays.1.name == "<init>") D_X12_lays.2.2.1 D_X12_lays.2.1 ((c_X12_lays.drop 60).take 60) = true := by decide +kernel
theorem co_X12_lays_120 : q_cok T_X12_lays.1 (D_X12_lays.1.name == "<init>") D_X12_lays.2.2.1 D_X12_lays.2.1 ((c_X12_lays.drop 120).take 60) = true := by decide +kernel
set_option maxRecDepth 100000 in
theorem co_X12_lays : q_cok T_X12_lays.1 (D_X12_lays.1.name == "<init>") D_X12_lays.2.2.1 D_X12_lays.2.1 (c_X12_lays.drop 0) = true := (q_cokA 0 60 co_X12_lays_0 (q_cokA 60 60 co_X12_lays_60 (q_cokA 120 60 co_X12_lays_120 rfl)))
theorem ok_X12_lays : q_mOK T_X12_lays D_X12_lays := ⟨rfl, rfl, rfl, by decide +kernel, q_cok_of co_X12_lays⟩
theorem co_X12_splits : q_cok T_X12_splits.1 (D_X12_splits.1.name == "<init>") D_X12_splits.2.2.1 D_X12_splits.2.1 c_X12_splits = true := by decide +kernel
theorem ok_X12_splits : q_mOK T_X12_splits D_X12_splits := ⟨rfl, rfl, rfl, by decide +kernel, q_cok_of co_X12_splits⟩
theorem co_X12_joined : q_cok T_X12_joined.1 (D_X12_joined.1.name == "<init>") D_X12_joined.2.2.1 D_X12_joined.2.1 c_X12_joined = true := by decide +kernel
theorem ok_X12_joined : q_mOK T_X12_joined D_X12_joined := ⟨rfl, rfl, rfl, by decide +kernel, q_cok_of co_X12_joined⟩
theorem co_X12_turnedLeft : q_cok T_X12_turnedLeft.1 (D_X12_turnedLeft.1.name == "<init>") D_X12_turnedLeft.2.2.1 D_X12_turnedLeft.2.1 c_X12_turnedLeft = true := by decide +kernel
theorem ok_X12_turnedLeft : q_mOK T_X12_turnedLeft D_X12_turnedLeft := ⟨rfl, rfl, rfl, by decide +kernel, q_cok_of co_X12_turnedLeft⟩
theorem co_X12_turns_0 : q_cok T_X12_turns.1 (D_X12_turns.1.name == "<init>") D_X12_turns.2.2.1 D_X12_turns.2.1 ((c_X12_turns.drop 0).take 60) = true := by decide +kernel
theorem co_X12_turns_60 : q_cok T_X12_turns.1 (D_X12_turns.1.name == "<init>") D_X12_turns.2.2.1 D_X12_turns.2.1 ((c_X12_turns.drop 60).take 60) = true := by decide +kernel
set_option maxRecDepth 100000 in
theorem co_X12_turns : q_cok T_X12_turns.1 (D_X12_turns.1.name == "<init>") D_X12_turns.2.2.1 D_X12_turns.2.1 (c_X12_turns.drop 0) = true := (q_cokA 0 60 co_X12_turns_0 (q_cokA 60 60 co_X12_turns_60 rfl))
theorem ok_X12_turns : q_mOK T_X12_turns D_X12_turns := ⟨rfl, rfl, rfl, by decide +kernel, q_cok_of co_X12_turns⟩
theorem co_X12_box_0 : q_cok T_X12_box.1 (D_X12_box.1.name == "<init>") D_X12_box.2.2.1 D_X12_box.2.1 ((c_X12_box.drop 0).take 60) = true := by decide +kernel
theorem co_X12_box_60 : q_cok T_X12_box.1 (D_X12_box.1.name == "<init>") D_X12_box.2.2.1 D_X12_box.2.1 ((c_X12_box.drop 60).take 60) = true := by decide +kernel
theorem co_X12_box_120 : q_cok T_X12_box.1 (D_X12_box.1.name == "<init>") D_X12_box.2.2.1 D_X12_box.2.1 ((c_X12_box.drop 120).take 60) = true := by decide +kernel
set_option maxRecDepth 100000 in
theorem co_X12_box : q_cok T_X12_box.1 (D_X12_box.1.name == "<init>") D_X12_box.2.2.1 D_X12_box.2.1 (c_X12_box.drop 0) = true := (q_cokA 0 60 co_X12_box_0 (q_cokA 60 60 co_X12_box_60 (q_cokA 120 60 co_X12_box_120 rfl)))
theorem ok_X12_box : q_mOK T_X12_box D_X12_box := ⟨rfl, rfl, rfl, by decide +kernel, q_cok_of co_X12_box⟩
theorem co_X12_narrows : q_cok T_X12_narrows.1 (D_X12_narrows.1.name == "<init>") D_X12_narrows.2.2.1 D_X12_narrows.2.1 c_X12_narrows = true := by decide +kernel
theorem ok_X12_narrows : q_mOK T_X12_narrows D_X12_narrows := ⟨rfl, rfl, rfl, by decide +kernel, q_cok_of co_X12_narrows⟩
theorem co_X12_isPlace : q_cok T_X12_isPlace.1 (D_X12_isPlace.1.name == "<init>") D_X12_isPlace.2.2.1 D_X12_isPlace.2.1 c_X12_isPlace = true := by decide +kernel
theorem ok_X12_isPlace : q_mOK T_X12_isPlace D_X12_isPlace := ⟨rfl, rfl, rfl, by decide +kernel, q_cok_of co_X12_isPlace⟩
theorem co_X12_numberOf_0 : q_cok T_X12_numberOf.1 (D_X12_numberOf.1.name == "<init>") D_X12_numberOf.2.2.1 D_X12_numberOf.2.1 ((c_X12_numberOf.drop 0).take 60) = true := by decide +kernel
theorem co_X12_numberOf_60 : q_cok T_X12_numberOf.1 (D_X12_numberOf.1.name == "<init>") D_X12_numberOf.2.2.1 D_X12_numberOf.2.1 ((c_X12_numberOf.drop 60).take 60) = true := by decide +kernel
set_option maxRecDepth 100000 in
theorem co_X12_numberOf : q_cok T_X12_numberOf.1 (D_X12_numberOf.1.name == "<init>") D_X12_numberOf.2.2.1 D_X12_numberOf.2.1 (c_X12_numberOf.drop 0) = true := (q_cokA 0 60 co_X12_numberOf_0 (q_cokA 60 60 co_X12_numberOf_60 rfl))
theorem ok_X12_numberOf : q_mOK T_X12_numberOf D_X12_numberOf := ⟨rfl, rfl, rfl, by decide +kernel, q_cok_of co_X12_numberOf⟩
theorem co_X12_number : q_cok T_X12_number.1 (D_X12_number.1.name == "<init>") D_X12_number.2.2.1 D_X12_number.2.1 c_X12_number = true := by decide +kernel
theorem ok_X12_number : q_mOK T_X12_number D_X12_number := ⟨rfl, rfl, rfl, by decide +kernel, q_cok_of co_X12_number⟩
theorem co_X12_placed : q_cok T_X12_placed.1 (D_X12_placed.1.name == "<init>") D_X12_placed.2.2.1 D_X12_placed.2.1 c_X12_placed = true := by decide +kernel
theorem ok_X12_placed : q_mOK T_X12_placed D_X12_placed := ⟨rfl, rfl, rfl, by decide +kernel, q_cok_of co_X12_placed⟩
theorem co_X12_place : q_cok T_X12_place.1 (D_X12_place.1.name == "<init>") D_X12_place.2.2.1 D_X12_place.2.1 c_X12_place = true := by decide +kernel
theorem ok_X12_place : q_mOK T_X12_place D_X12_place := ⟨rfl, rfl, rfl, by decide +kernel, q_cok_of co_X12_place⟩
theorem co_X12_gap_0 : q_cok T_X12_gap.1 (D_X12_gap.1.name == "<init>") D_X12_gap.2.2.1 D_X12_gap.2.1 ((c_X12_gap.drop 0).take 60) = true := by decide +kernel
theorem co_X12_gap_60 : q_cok T_X12_gap.1 (D_X12_gap.1.name == "<init>") D_X12_gap.2.2.1 D_X12_gap.2.1 ((c_X12_gap.drop 60).take 60) = true := by decide +kernel
set_option maxRecDepth 100000 in
theorem co_X12_gap : q_cok T_X12_gap.1 (D_X12_gap.1.name == "<init>") D_X12_gap.2.2.1 D_X12_gap.2.1 (c_X12_gap.drop 0) = true := (q_cokA 0 60 co_X12_gap_0 (q_cokA 60 60 co_X12_gap_60 rfl))
theorem ok_X12_gap : q_mOK T_X12_gap D_X12_gap := ⟨rfl, rfl, rfl, by decide +kernel, q_cok_of co_X12_gap⟩
theorem co_X12_off : q_cok T_X12_off.1 (D_X12_off.1.name == "<init>") D_X12_off.2.2.1 D_X12_off.2.1 c_X12_off = true := by decide +kernel
theorem ok_X12_off : q_mOK T_X12_off D_X12_off := ⟨rfl, rfl, rfl, by decide +kernel, q_cok_of co_X12_off⟩
theorem co_X12_low : q_cok T_X12_low.1 (D_X12_low.1.name == "<init>") D_X12_low.2.2.1 D_X12_low.2.1 c_X12_low = true := by decide +kernel
theorem ok_X12_low : q_mOK T_X12_low D_X12_low := ⟨rfl, rfl, rfl, by decide +kernel, q_cok_of co_X12_low⟩
theorem co_X12_high : q_cok T_X12_high.1 (D_X12_high.1.name == "<init>") D_X12_high.2.2.1 D_X12_high.2.1 c_X12_high = true := by decide +kernel
theorem ok_X12_high : q_mOK T_X12_high D_X12_high := ⟨rfl, rfl, rfl, by decide +kernel, q_cok_of co_X12_high⟩
theorem co_X12_isWindow : q_cok T_X12_isWindow.1 (D_X12_isWindow.1.name == "<init>") D_X12_isWindow.2.2.1 D_X12_isWindow.2.1 c_X12_isWindow = true := by decide +kernel
theorem ok_X12_isWindow : q_mOK T_X12_isWindow D_X12_isWindow := ⟨rfl, rfl, rfl, by decide +kernel, q_cok_of co_X12_isWindow⟩
theorem co_X12_isAsked_0 : q_cok T_X12_isAsked.1 (D_X12_isAsked.1.name == "<init>") D_X12_isAsked.2.2.1 D_X12_isAsked.2.1 ((c_X12_isAsked.drop 0).take 60) = true := by decide +kernel
theorem co_X12_isAsked_60 : q_cok T_X12_isAsked.1 (D_X12_isAsked.1.name == "<init>") D_X12_isAsked.2.2.1 D_X12_isAsked.2.1 ((c_X12_isAsked.drop 60).take 60) = true := by decide +kernel
set_option maxRecDepth 100000 in
theorem co_X12_isAsked : q_cok T_X12_isAsked.1 (D_X12_isAsked.1.name == "<init>") D_X12_isAsked.2.2.1 D_X12_isAsked.2.1 (c_X12_isAsked.drop 0) = true := (q_cokA 0 60 co_X12_isAsked_0 (q_cokA 60 60 co_X12_isAsked_60 rfl))
theorem ok_X12_isAsked : q_mOK T_X12_isAsked D_X12_isAsked := ⟨rfl, rfl, rfl, by decide +kernel, q_cok_of co_X12_isAsked⟩
theorem co_X12_next_0 : q_cok T_X12_next.1 (D_X12_next.1.name == "<init>") D_X12_next.2.2.1 D_X12_next.2.1 ((c_X12_next.drop 0).take 60) = true := by decide +kernel
theorem co_X12_next_60 : q_cok T_X12_next.1 (D_X12_next.1.name == "<init>") D_X12_next.2.2.1 D_X12_next.2.1 ((c_X12_next.drop 60).take 60) = true := by decide +kernel
set_option maxRecDepth 100000 in
theorem co_X12_next : q_cok T_X12_next.1 (D_X12_next.1.name == "<init>") D_X12_next.2.2.1 D_X12_next.2.1 (c_X12_next.drop 0) = true := (q_cokA 0 60 co_X12_next_0 (q_cokA 60 60 co_X12_next_60 rfl))
theorem ok_X12_next : q_mOK T_X12_next D_X12_next := ⟨rfl, rfl, rfl, by decide +kernel, q_cok_of co_X12_next⟩
theorem co_X12_lowest : q_cok T_X12_lowest.1 (D_X12_lowest.1.name == "<init>") D_X12_lowest.2.2.1 D_X12_lowest.2.1 c_X12_lowest = true := by decide +kernel
theorem ok_X12_lowest : q_mOK T_X12_lowest D_X12_lowest := ⟨rfl, rfl, rfl, by decide +kernel, q_cok_of co_X12_lowest⟩
theorem co_X12_spans_0 : q_cok T_X12_spans.1 (D_X12_spans.1.name == "<init>") D_X12_spans.2.2.1 D_X12_spans.2.1 ((c_X12_spans.drop 0).take 60) = true := by decide +kernel
theorem co_X12_spans_60 : q_cok T_X12_spans.1 (D_X12_spans.1.name == "<init>") D_X12_spans.2.2.1 D_X12_spans.2.1 ((c_X12_spans.drop 60).take 60) = true := by decide +kernel
theorem co_X12_spans_120 : q_cok T_X12_spans.1 (D_X12_spans.1.name == "<init>") D_X12_spans.2.2.1 D_X12_spans.2.1 ((c_X12_spans.drop 120).take 60) = true := by decide +kernel
set_option maxRecDepth 100000 in
theorem co_X12_spans : q_cok T_X12_spans.1 (D_X12_spans.1.name == "<init>") D_X12_spans.2.2.1 D_X12_spans.2.1 (c_X12_spans.drop 0) = true := (q_cokA 0 60 co_X12_spans_0 (q_cokA 60 60 co_X12_spans_60 (q_cokA 120 60 co_X12_spans_120 rfl)))
theorem ok_X12_spans : q_mOK T_X12_spans D_X12_spans := ⟨rfl, rfl, rfl, by decide +kernel, q_cok_of co_X12_spans⟩
theorem co_X12_span : q_cok T_X12_span.1 (D_X12_span.1.name == "<init>") D_X12_span.2.2.1 D_X12_span.2.1 c_X12_span = true := by decide +kernel
theorem ok_X12_span : q_mOK T_X12_span D_X12_span := ⟨rfl, rfl, rfl, by decide +kernel, q_cok_of co_X12_span⟩
theorem co_X12_few_0 : q_cok T_X12_few.1 (D_X12_few.1.name == "<init>") D_X12_few.2.2.1 D_X12_few.2.1 ((c_X12_few.drop 0).take 60) = true := by decide +kernel
theorem co_X12_few_60 : q_cok T_X12_few.1 (D_X12_few.1.name == "<init>") D_X12_few.2.2.1 D_X12_few.2.1 ((c_X12_few.drop 60).take 60) = true := by decide +kernel
set_option maxRecDepth 100000 in
theorem co_X12_few : q_cok T_X12_few.1 (D_X12_few.1.name == "<init>") D_X12_few.2.2.1 D_X12_few.2.1 (c_X12_few.drop 0) = true := (q_cokA 0 60 co_X12_few_0 (q_cokA 60 60 co_X12_few_60 rfl))
theorem ok_X12_few : q_mOK T_X12_few D_X12_few := ⟨rfl, rfl, rfl, by decide +kernel, q_cok_of co_X12_few⟩
