/-! ===== THE PURE RUN OF THE LAW ===== -/
theorem q_pure (L : Nat) (xs : Nat → Int32) (hL : L ≤ 3584) : ∃ M1 : q_M, q_CC q_mt q_ct q_sw q_nf 235 [.inr (.inr (some 0))] (q_M0 L xs) = some (some (.inl 1), M1) ∧ M1.2.2.2.2.2.1 ≤ 100001 ∧ M1.2.2.2.2.2.2 ≤ 2000000 := by
  obtain ⟨A, B, C, D, z1, z2, z3, e4, z5, r⟩ := N_law (M0 := q_M0 L xs) (b := 1) rfl (show 1 + 100 ≤ 600000 by decide +kernel) (show 0 + 300000 ≤ 7302250 by decide +kernel)
  have J := lw_J r
  have n63 : gN D = 63 := (lw_c r).1
  have sD : gS D ≤ 200000 := by
    rw [r.2.2.1]
    exact (show 0 + gS lwG ≤ 200000 by decide +kernel)
  have b1 : gN D + 43 * 512 ≤ 90000 := by rw [n63]; decide +kernel
  have b2 : gS D + 1200 * 512 ≤ 1900000 := Nat.le_trans (Nat.add_le_add_right sD _) (by decide +kernel)
  obtain ⟨M1, l1, l2, l3⟩ := L_loop hL 512 0 D (by omega) (by omega) J b1 b2
  refine ⟨M1, ?_, ?_, ?_⟩
  · show q_CL 235 [.inr (.inr (some 0))] (q_M0 L xs) = _
    rw [C_L_law]
    refine bs_ z1 (bs_ (congrArg q_rV z2) (bs_ z3 (bs_ (congrArg q_rV z5) ?_)))
    rw [e4]
    exact l1
  · have : gN M1 ≤ 90000 := Nat.le_trans l2 b1
    exact Nat.le_trans this (by decide +kernel)
  · have : gS M1 ≤ 1900000 := Nat.le_trans l3 b2
    exact Nat.le_trans this (by decide +kernel)
