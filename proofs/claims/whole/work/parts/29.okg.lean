/-! ===== METHODS' ROWS ===== -/
theorem co_X12_finds : q_cok T_X12_finds.1 (D_X12_finds.1.name == "<init>") D_X12_finds.2.2.1 D_X12_finds.2.1 c_X12_finds = true := by decide +kernel
theorem ok_X12_finds : q_mOK T_X12_finds D_X12_finds := ⟨rfl, rfl, rfl, by decide +kernel, q_cok_of co_X12_finds⟩
theorem co_X12_begins : q_cok T_X12_begins.1 (D_X12_begins.1.name == "<init>") D_X12_begins.2.2.1 D_X12_begins.2.1 c_X12_begins = true := by decide +kernel
theorem ok_X12_begins : q_mOK T_X12_begins D_X12_begins := ⟨rfl, rfl, rfl, by decide +kernel, q_cok_of co_X12_begins⟩
theorem co_X12_points_0 : q_cok T_X12_points.1 (D_X12_points.1.name == "<init>") D_X12_points.2.2.1 D_X12_points.2.1 ((c_X12_points.drop 0).take 60) = true := by decide +kernel
theorem co_X12_points_60 : q_cok T_X12_points.1 (D_X12_points.1.name == "<init>") D_X12_points.2.2.1 D_X12_points.2.1 ((c_X12_points.drop 60).take 60) = true := by decide +kernel
theorem co_X12_points_120 : q_cok T_X12_points.1 (D_X12_points.1.name == "<init>") D_X12_points.2.2.1 D_X12_points.2.1 ((c_X12_points.drop 120).take 60) = true := by decide +kernel
set_option maxRecDepth 100000 in
theorem co_X12_points : q_cok T_X12_points.1 (D_X12_points.1.name == "<init>") D_X12_points.2.2.1 D_X12_points.2.1 (c_X12_points.drop 0) = true := (q_cokA 0 60 co_X12_points_0 (q_cokA 60 60 co_X12_points_60 (q_cokA 120 60 co_X12_points_120 rfl)))
theorem ok_X12_points : q_mOK T_X12_points D_X12_points := ⟨rfl, rfl, rfl, by decide +kernel, q_cok_of co_X12_points⟩
theorem co_X12_joins : q_cok T_X12_joins.1 (D_X12_joins.1.name == "<init>") D_X12_joins.2.2.1 D_X12_joins.2.1 c_X12_joins = true := by decide +kernel
theorem ok_X12_joins : q_mOK T_X12_joins D_X12_joins := ⟨rfl, rfl, rfl, by decide +kernel, q_cok_of co_X12_joins⟩
theorem co_X12_stands : q_cok T_X12_stands.1 (D_X12_stands.1.name == "<init>") D_X12_stands.2.2.1 D_X12_stands.2.1 c_X12_stands = true := by decide +kernel
theorem ok_X12_stands : q_mOK T_X12_stands D_X12_stands := ⟨rfl, rfl, rfl, by decide +kernel, q_cok_of co_X12_stands⟩
theorem co_X12_far : q_cok T_X12_far.1 (D_X12_far.1.name == "<init>") D_X12_far.2.2.1 D_X12_far.2.1 c_X12_far = true := by decide +kernel
theorem ok_X12_far : q_mOK T_X12_far D_X12_far := ⟨rfl, rfl, rfl, by decide +kernel, q_cok_of co_X12_far⟩
theorem co_X12_outside : q_cok T_X12_outside.1 (D_X12_outside.1.name == "<init>") D_X12_outside.2.2.1 D_X12_outside.2.1 c_X12_outside = true := by decide +kernel
theorem ok_X12_outside : q_mOK T_X12_outside D_X12_outside := ⟨rfl, rfl, rfl, by decide +kernel, q_cok_of co_X12_outside⟩
theorem co_X12_boxFar : q_cok T_X12_boxFar.1 (D_X12_boxFar.1.name == "<init>") D_X12_boxFar.2.2.1 D_X12_boxFar.2.1 c_X12_boxFar = true := by decide +kernel
theorem ok_X12_boxFar : q_mOK T_X12_boxFar D_X12_boxFar := ⟨rfl, rfl, rfl, by decide +kernel, q_cok_of co_X12_boxFar⟩
theorem co_X12_nearestOf_0 : q_cok T_X12_nearestOf.1 (D_X12_nearestOf.1.name == "<init>") D_X12_nearestOf.2.2.1 D_X12_nearestOf.2.1 ((c_X12_nearestOf.drop 0).take 60) = true := by decide +kernel
theorem co_X12_nearestOf_60 : q_cok T_X12_nearestOf.1 (D_X12_nearestOf.1.name == "<init>") D_X12_nearestOf.2.2.1 D_X12_nearestOf.2.1 ((c_X12_nearestOf.drop 60).take 60) = true := by decide +kernel
set_option maxRecDepth 100000 in
theorem co_X12_nearestOf : q_cok T_X12_nearestOf.1 (D_X12_nearestOf.1.name == "<init>") D_X12_nearestOf.2.2.1 D_X12_nearestOf.2.1 (c_X12_nearestOf.drop 0) = true := (q_cokA 0 60 co_X12_nearestOf_0 (q_cokA 60 60 co_X12_nearestOf_60 rfl))
theorem ok_X12_nearestOf : q_mOK T_X12_nearestOf D_X12_nearestOf := ⟨rfl, rfl, rfl, by decide +kernel, q_cok_of co_X12_nearestOf⟩
theorem co_X12_none : q_cok T_X12_none.1 (D_X12_none.1.name == "<init>") D_X12_none.2.2.1 D_X12_none.2.1 c_X12_none = true := by decide +kernel
theorem ok_X12_none : q_mOK T_X12_none D_X12_none := ⟨rfl, rfl, rfl, by decide +kernel, q_cok_of co_X12_none⟩
theorem co_X12_nth : q_cok T_X12_nth.1 (D_X12_nth.1.name == "<init>") D_X12_nth.2.2.1 D_X12_nth.2.1 c_X12_nth = true := by decide +kernel
theorem ok_X12_nth : q_mOK T_X12_nth D_X12_nth := ⟨rfl, rfl, rfl, by decide +kernel, q_cok_of co_X12_nth⟩
theorem co_X12_reads_0 : q_cok T_X12_reads.1 (D_X12_reads.1.name == "<init>") D_X12_reads.2.2.1 D_X12_reads.2.1 ((c_X12_reads.drop 0).take 60) = true := by decide +kernel
theorem co_X12_reads_60 : q_cok T_X12_reads.1 (D_X12_reads.1.name == "<init>") D_X12_reads.2.2.1 D_X12_reads.2.1 ((c_X12_reads.drop 60).take 60) = true := by decide +kernel
set_option maxRecDepth 100000 in
theorem co_X12_reads : q_cok T_X12_reads.1 (D_X12_reads.1.name == "<init>") D_X12_reads.2.2.1 D_X12_reads.2.1 (c_X12_reads.drop 0) = true := (q_cokA 0 60 co_X12_reads_0 (q_cokA 60 60 co_X12_reads_60 rfl))
theorem ok_X12_reads : q_mOK T_X12_reads D_X12_reads := ⟨rfl, rfl, rfl, by decide +kernel, q_cok_of co_X12_reads⟩
theorem co_X12_isAskable : q_cok T_X12_isAskable.1 (D_X12_isAskable.1.name == "<init>") D_X12_isAskable.2.2.1 D_X12_isAskable.2.1 c_X12_isAskable = true := by decide +kernel
theorem ok_X12_isAskable : q_mOK T_X12_isAskable D_X12_isAskable := ⟨rfl, rfl, rfl, by decide +kernel, q_cok_of co_X12_isAskable⟩
theorem co_X12_nearest_0 : q_cok T_X12_nearest.1 (D_X12_nearest.1.name == "<init>") D_X12_nearest.2.2.1 D_X12_nearest.2.1 ((c_X12_nearest.drop 0).take 60) = true := by decide +kernel
theorem co_X12_nearest_60 : q_cok T_X12_nearest.1 (D_X12_nearest.1.name == "<init>") D_X12_nearest.2.2.1 D_X12_nearest.2.1 ((c_X12_nearest.drop 60).take 60) = true := by decide +kernel
set_option maxRecDepth 100000 in
theorem co_X12_nearest : q_cok T_X12_nearest.1 (D_X12_nearest.1.name == "<init>") D_X12_nearest.2.2.1 D_X12_nearest.2.1 (c_X12_nearest.drop 0) = true := (q_cokA 0 60 co_X12_nearest_0 (q_cokA 60 60 co_X12_nearest_60 rfl))
theorem ok_X12_nearest : q_mOK T_X12_nearest D_X12_nearest := ⟨rfl, rfl, rfl, by decide +kernel, q_cok_of co_X12_nearest⟩
theorem co_X12_within_0 : q_cok T_X12_within.1 (D_X12_within.1.name == "<init>") D_X12_within.2.2.1 D_X12_within.2.1 ((c_X12_within.drop 0).take 60) = true := by decide +kernel
theorem co_X12_within_60 : q_cok T_X12_within.1 (D_X12_within.1.name == "<init>") D_X12_within.2.2.1 D_X12_within.2.1 ((c_X12_within.drop 60).take 60) = true := by decide +kernel
set_option maxRecDepth 100000 in
theorem co_X12_within : q_cok T_X12_within.1 (D_X12_within.1.name == "<init>") D_X12_within.2.2.1 D_X12_within.2.1 (c_X12_within.drop 0) = true := (q_cokA 0 60 co_X12_within_0 (q_cokA 60 60 co_X12_within_60 rfl))
theorem ok_X12_within : q_mOK T_X12_within D_X12_within := ⟨rfl, rfl, rfl, by decide +kernel, q_cok_of co_X12_within⟩
theorem co_X12_pairs_0 : q_cok T_X12_pairs.1 (D_X12_pairs.1.name == "<init>") D_X12_pairs.2.2.1 D_X12_pairs.2.1 ((c_X12_pairs.drop 0).take 60) = true := by decide +kernel
theorem co_X12_pairs_60 : q_cok T_X12_pairs.1 (D_X12_pairs.1.name == "<init>") D_X12_pairs.2.2.1 D_X12_pairs.2.1 ((c_X12_pairs.drop 60).take 60) = true := by decide +kernel
theorem co_X12_pairs_120 : q_cok T_X12_pairs.1 (D_X12_pairs.1.name == "<init>") D_X12_pairs.2.2.1 D_X12_pairs.2.1 ((c_X12_pairs.drop 120).take 60) = true := by decide +kernel
set_option maxRecDepth 100000 in
theorem co_X12_pairs : q_cok T_X12_pairs.1 (D_X12_pairs.1.name == "<init>") D_X12_pairs.2.2.1 D_X12_pairs.2.1 (c_X12_pairs.drop 0) = true := (q_cokA 0 60 co_X12_pairs_0 (q_cokA 60 60 co_X12_pairs_60 (q_cokA 120 60 co_X12_pairs_120 rfl)))
theorem ok_X12_pairs : q_mOK T_X12_pairs D_X12_pairs := ⟨rfl, rfl, rfl, by decide +kernel, q_cok_of co_X12_pairs⟩
theorem co_X12_found : q_cok T_X12_found.1 (D_X12_found.1.name == "<init>") D_X12_found.2.2.1 D_X12_found.2.1 c_X12_found = true := by decide +kernel
theorem ok_X12_found : q_mOK T_X12_found D_X12_found := ⟨rfl, rfl, rfl, by decide +kernel, q_cok_of co_X12_found⟩
theorem co_X12_spent : q_cok T_X12_spent.1 (D_X12_spent.1.name == "<init>") D_X12_spent.2.2.1 D_X12_spent.2.1 c_X12_spent = true := by decide +kernel
theorem ok_X12_spent : q_mOK T_X12_spent D_X12_spent := ⟨rfl, rfl, rfl, by decide +kernel, q_cok_of co_X12_spent⟩
theorem co_X12_among : q_cok T_X12_among.1 (D_X12_among.1.name == "<init>") D_X12_among.2.2.1 D_X12_among.2.1 c_X12_among = true := by decide +kernel
theorem ok_X12_among : q_mOK T_X12_among D_X12_among := ⟨rfl, rfl, rfl, by decide +kernel, q_cok_of co_X12_among⟩
theorem co_X12_means_0 : q_cok T_X12_means.1 (D_X12_means.1.name == "<init>") D_X12_means.2.2.1 D_X12_means.2.1 ((c_X12_means.drop 0).take 60) = true := by decide +kernel
theorem co_X12_means_60 : q_cok T_X12_means.1 (D_X12_means.1.name == "<init>") D_X12_means.2.2.1 D_X12_means.2.1 ((c_X12_means.drop 60).take 60) = true := by decide +kernel
theorem co_X12_means_120 : q_cok T_X12_means.1 (D_X12_means.1.name == "<init>") D_X12_means.2.2.1 D_X12_means.2.1 ((c_X12_means.drop 120).take 60) = true := by decide +kernel
set_option maxRecDepth 100000 in
theorem co_X12_means : q_cok T_X12_means.1 (D_X12_means.1.name == "<init>") D_X12_means.2.2.1 D_X12_means.2.1 (c_X12_means.drop 0) = true := (q_cokA 0 60 co_X12_means_0 (q_cokA 60 60 co_X12_means_60 (q_cokA 120 60 co_X12_means_120 rfl)))
theorem ok_X12_means : q_mOK T_X12_means D_X12_means := ⟨rfl, rfl, rfl, by decide +kernel, q_cok_of co_X12_means⟩
theorem co_X12_common : q_cok T_X12_common.1 (D_X12_common.1.name == "<init>") D_X12_common.2.2.1 D_X12_common.2.1 c_X12_common = true := by decide +kernel
theorem ok_X12_common : q_mOK T_X12_common D_X12_common := ⟨rfl, rfl, rfl, by decide +kernel, q_cok_of co_X12_common⟩
theorem co_X12_mean : q_cok T_X12_mean.1 (D_X12_mean.1.name == "<init>") D_X12_mean.2.2.1 D_X12_mean.2.1 c_X12_mean = true := by decide +kernel
theorem ok_X12_mean : q_mOK T_X12_mean D_X12_mean := ⟨rfl, rfl, rfl, by decide +kernel, q_cok_of co_X12_mean⟩
theorem co_X12_compare : q_cok T_X12_compare.1 (D_X12_compare.1.name == "<init>") D_X12_compare.2.2.1 D_X12_compare.2.1 c_X12_compare = true := by decide +kernel
theorem ok_X12_compare : q_mOK T_X12_compare D_X12_compare := ⟨rfl, rfl, rfl, by decide +kernel, q_cok_of co_X12_compare⟩
theorem co_X12_witness_0 : q_cok T_X12_witness.1 (D_X12_witness.1.name == "<init>") D_X12_witness.2.2.1 D_X12_witness.2.1 ((c_X12_witness.drop 0).take 60) = true := by decide +kernel
theorem co_X12_witness_60 : q_cok T_X12_witness.1 (D_X12_witness.1.name == "<init>") D_X12_witness.2.2.1 D_X12_witness.2.1 ((c_X12_witness.drop 60).take 60) = true := by decide +kernel
set_option maxRecDepth 100000 in
theorem co_X12_witness : q_cok T_X12_witness.1 (D_X12_witness.1.name == "<init>") D_X12_witness.2.2.1 D_X12_witness.2.1 (c_X12_witness.drop 0) = true := (q_cokA 0 60 co_X12_witness_0 (q_cokA 60 60 co_X12_witness_60 rfl))
theorem ok_X12_witness : q_mOK T_X12_witness D_X12_witness := ⟨rfl, rfl, rfl, by decide +kernel, q_cok_of co_X12_witness⟩
theorem co_X12_out : q_cok T_X12_out.1 (D_X12_out.1.name == "<init>") D_X12_out.2.2.1 D_X12_out.2.1 c_X12_out = true := by decide +kernel
theorem ok_X12_out : q_mOK T_X12_out D_X12_out := ⟨rfl, rfl, rfl, by decide +kernel, q_cok_of co_X12_out⟩
theorem co_X12_forge : q_cok T_X12_forge.1 (D_X12_forge.1.name == "<init>") D_X12_forge.2.2.1 D_X12_forge.2.1 c_X12_forge = true := by decide +kernel
theorem ok_X12_forge : q_mOK T_X12_forge D_X12_forge := ⟨rfl, rfl, rfl, by decide +kernel, q_cok_of co_X12_forge⟩
