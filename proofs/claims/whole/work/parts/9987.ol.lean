/-! ===== THE LAW'S LOOP ===== -/
theorem rd_ {L : Nat} {xs : Nat → Int32} {M : q_M} (h : SH M) (sc : SC L xs M) (hL : L ≤ 3584) {i t : Nat} (ht : i + t < L) : q_aI M 23 0 (nI i + nI t) = some (xs (i + t)) := by
  rw [nI_add, z_aI (t := 23) (n := L) (h.tg (a := 0) (by omega) rfl) sc.1 ht (by omega), sc.2 _ ht]
theorem ref_sel {M : q_M} (h : SH M) {y : Nat} : q_sel M [(12, y)] 49 = some y := m_sel h
theorem S_curve {L : Nat} {xs : Nat → Int32} {M : q_M} (J : JV L xs M) (hL : L ≤ 3584) {i : Nat} (hi : i + 7 ≤ L) (rn : gN M + 200 ≤ 600000) (rs : gS M + 300000 ≤ 7302250) : ∃ M2, q_RL T_L_law (200, [some (.inr (.inr (some 0))), some (.inr (.inr (some 1))), some (.inr (.inr (some 49))), some (.inl (nI i))], [], M) = q_RL T_L_law (1878, [some (.inr (.inr (some 0))), some (.inr (.inr (some 1))), some (.inr (.inr (some 49))), some (.inl (nI i))], [], M2) ∧ JV L xs M2 ∧ gN M2 ≤ gN M + 43 ∧ gS M2 ≤ gS M + 1200 := by
  have h : SH M := by obtain ⟨_, _, _, _, _, _, _, I⟩ := J; exact I.1
  have sc : SC L xs M := by obtain ⟨_, _, _, _, _, _, _, I⟩ := J; exact I.2.1
  obtain ⟨a, M1, M2, k1, h1, s1, r1, j2, n2, g2⟩ := O_curve J rn rs (xs (i + 1)) (xs (i + 2)) (xs (i + 3)) (xs (i + 4)) (xs (i + 5))
  refine ⟨M2, ?_, j2, n2, g2⟩
  rw [E_L_law_200]
  simp only [Option.bind_some, rd_ h sc hL (show i + 1 < L by omega), rd_ h1 s1 hL (show i + 1 < L by omega), rd_ h sc hL (show i + 2 < L by omega), rd_ h1 s1 hL (show i + 2 < L by omega), rd_ h sc hL (show i + 3 < L by omega), rd_ h1 s1 hL (show i + 3 < L by omega), rd_ h sc hL (show i + 4 < L by omega), rd_ h1 s1 hL (show i + 4 < L by omega), rd_ h sc hL (show i + 5 < L by omega), rd_ h1 s1 hL (show i + 5 < L by omega), c_sel h, k1, z_rI, ref_sel h1, r1]
  rw [if_pos trivial]
theorem S_number {L : Nat} {xs : Nat → Int32} {M : q_M} (J : JV L xs M) (hL : L ≤ 3584) {i : Nat} (hi : i + 7 ≤ L) (rn : gN M + 200 ≤ 600000) (rs : gS M + 300000 ≤ 7302250) : ∃ M2, q_RL T_L_law (263, [some (.inr (.inr (some 0))), some (.inr (.inr (some 1))), some (.inr (.inr (some 49))), some (.inl (nI i))], [], M) = q_RL T_L_law (1878, [some (.inr (.inr (some 0))), some (.inr (.inr (some 1))), some (.inr (.inr (some 49))), some (.inl (nI i))], [], M2) ∧ JV L xs M2 ∧ gN M2 ≤ gN M + 43 ∧ gS M2 ≤ gS M + 1200 := by
  have h : SH M := by obtain ⟨_, _, _, _, _, _, _, I⟩ := J; exact I.1
  have sc : SC L xs M := by obtain ⟨_, _, _, _, _, _, _, I⟩ := J; exact I.2.1
  obtain ⟨a, M1, M2, k1, h1, s1, r1, j2, n2, g2⟩ := O_number J (xs (i + 1)) (xs (i + 2)) (xs (i + 3)) (xs (i + 4))
  refine ⟨M2, ?_, j2, n2, g2⟩
  rw [E_L_law_263]
  simp only [Option.bind_some, rd_ h sc hL (show i + 1 < L by omega), rd_ h1 s1 hL (show i + 1 < L by omega), rd_ h sc hL (show i + 2 < L by omega), rd_ h1 s1 hL (show i + 2 < L by omega), rd_ h sc hL (show i + 3 < L by omega), rd_ h1 s1 hL (show i + 3 < L by omega), rd_ h sc hL (show i + 4 < L by omega), rd_ h1 s1 hL (show i + 4 < L by omega), c_sel h, k1, z_rL, ref_sel h1, r1]
  simp only [lg_cmp_eq]
  rw [if_pos trivial]
theorem S_place {L : Nat} {xs : Nat → Int32} {M : q_M} (J : JV L xs M) (hL : L ≤ 3584) {i : Nat} (hi : i + 7 ≤ L) (rn : gN M + 200 ≤ 600000) (rs : gS M + 300000 ≤ 7302250) : ∃ M2, q_RL T_L_law (317, [some (.inr (.inr (some 0))), some (.inr (.inr (some 1))), some (.inr (.inr (some 49))), some (.inl (nI i))], [], M) = q_RL T_L_law (1878, [some (.inr (.inr (some 0))), some (.inr (.inr (some 1))), some (.inr (.inr (some 49))), some (.inl (nI i))], [], M2) ∧ JV L xs M2 ∧ gN M2 ≤ gN M + 43 ∧ gS M2 ≤ gS M + 1200 := by
  have h : SH M := by obtain ⟨_, _, _, _, _, _, _, I⟩ := J; exact I.1
  have sc : SC L xs M := by obtain ⟨_, _, _, _, _, _, _, I⟩ := J; exact I.2.1
  obtain ⟨a, M1, M2, k1, h1, s1, r1, j2, n2, g2⟩ := O_place J (xs (i + 1)) ((Int32.toInt64 (xs (i + 2)) <<< (Int32.toInt64 (nI 32) &&& 63)) ||| (Int32.toInt64 (xs (i + 3)) &&& (lN 4294967295))) (xs (i + 4))
  refine ⟨M2, ?_, j2, n2, g2⟩
  rw [E_L_law_317]
  simp only [Option.bind_some, rd_ h sc hL (show i + 1 < L by omega), rd_ h1 s1 hL (show i + 1 < L by omega), rd_ h sc hL (show i + 2 < L by omega), rd_ h1 s1 hL (show i + 2 < L by omega), rd_ h sc hL (show i + 3 < L by omega), rd_ h1 s1 hL (show i + 3 < L by omega), rd_ h sc hL (show i + 4 < L by omega), rd_ h1 s1 hL (show i + 4 < L by omega), c_sel h, k1, z_rI, ref_sel h1, r1]
  rw [if_pos trivial]
theorem S_size {L : Nat} {xs : Nat → Int32} {M : q_M} (J : JV L xs M) (hL : L ≤ 3584) {i : Nat} (hi : i + 7 ≤ L) (rn : gN M + 200 ≤ 600000) (rs : gS M + 300000 ≤ 7302250) : ∃ M2, q_RL T_L_law (390, [some (.inr (.inr (some 0))), some (.inr (.inr (some 1))), some (.inr (.inr (some 49))), some (.inl (nI i))], [], M) = q_RL T_L_law (1878, [some (.inr (.inr (some 0))), some (.inr (.inr (some 1))), some (.inr (.inr (some 49))), some (.inl (nI i))], [], M2) ∧ JV L xs M2 ∧ gN M2 ≤ gN M + 43 ∧ gS M2 ≤ gS M + 1200 := by
  have h : SH M := by obtain ⟨_, _, _, _, _, _, _, I⟩ := J; exact I.1
  have sc : SC L xs M := by obtain ⟨_, _, _, _, _, _, _, I⟩ := J; exact I.2.1
  obtain ⟨a, M1, M2, k1, h1, s1, r1, j2, n2, g2⟩ := O_size J (xs (i + 1))
  refine ⟨M2, ?_, j2, n2, g2⟩
  rw [E_L_law_390]
  simp only [Option.bind_some, rd_ h sc hL (show i + 1 < L by omega), rd_ h1 s1 hL (show i + 1 < L by omega), c_sel h, k1, z_rL, ref_sel h1, r1]
  simp only [lg_cmp_eq]
  rw [if_pos trivial]
theorem S_gap {L : Nat} {xs : Nat → Int32} {M : q_M} (J : JV L xs M) (hL : L ≤ 3584) {i : Nat} (hi : i + 7 ≤ L) (rn : gN M + 200 ≤ 600000) (rs : gS M + 300000 ≤ 7302250) : ∃ M2, q_RL T_L_law (414, [some (.inr (.inr (some 0))), some (.inr (.inr (some 1))), some (.inr (.inr (some 49))), some (.inl (nI i))], [], M) = q_RL T_L_law (1878, [some (.inr (.inr (some 0))), some (.inr (.inr (some 1))), some (.inr (.inr (some 49))), some (.inl (nI i))], [], M2) ∧ JV L xs M2 ∧ gN M2 ≤ gN M + 43 ∧ gS M2 ≤ gS M + 1200 := by
  have h : SH M := by obtain ⟨_, _, _, _, _, _, _, I⟩ := J; exact I.1
  have sc : SC L xs M := by obtain ⟨_, _, _, _, _, _, _, I⟩ := J; exact I.2.1
  obtain ⟨a, M1, M2, k1, h1, s1, r1, j2, n2, g2⟩ := O_gap J (xs (i + 1)) ((Int32.toInt64 (xs (i + 2)) <<< (Int32.toInt64 (nI 32) &&& 63)) ||| (Int32.toInt64 (xs (i + 3)) &&& (lN 4294967295))) (xs (i + 4))
  refine ⟨M2, ?_, j2, n2, g2⟩
  rw [E_L_law_414]
  simp only [Option.bind_some, rd_ h sc hL (show i + 1 < L by omega), rd_ h1 s1 hL (show i + 1 < L by omega), rd_ h sc hL (show i + 2 < L by omega), rd_ h1 s1 hL (show i + 2 < L by omega), rd_ h sc hL (show i + 3 < L by omega), rd_ h1 s1 hL (show i + 3 < L by omega), rd_ h sc hL (show i + 4 < L by omega), rd_ h1 s1 hL (show i + 4 < L by omega), c_sel h, k1, z_rI, ref_sel h1, r1]
  rw [if_pos trivial]
theorem S_shelf {L : Nat} {xs : Nat → Int32} {M : q_M} (J : JV L xs M) (hL : L ≤ 3584) {i : Nat} (hi : i + 7 ≤ L) (rn : gN M + 200 ≤ 600000) (rs : gS M + 300000 ≤ 7302250) : ∃ M2, q_RL T_L_law (487, [some (.inr (.inr (some 0))), some (.inr (.inr (some 1))), some (.inr (.inr (some 49))), some (.inl (nI i))], [], M) = q_RL T_L_law (1878, [some (.inr (.inr (some 0))), some (.inr (.inr (some 1))), some (.inr (.inr (some 49))), some (.inl (nI i))], [], M2) ∧ JV L xs M2 ∧ gN M2 ≤ gN M + 43 ∧ gS M2 ≤ gS M + 1200 := by
  have h : SH M := by obtain ⟨_, _, _, _, _, _, _, I⟩ := J; exact I.1
  have sc : SC L xs M := by obtain ⟨_, _, _, _, _, _, _, I⟩ := J; exact I.2.1
  obtain ⟨a, M1, M2, k1, h1, s1, r1, j2, n2, g2⟩ := O_shelf J rn rs (xs (i + 1)) (xs (i + 2))
  refine ⟨M2, ?_, j2, n2, g2⟩
  rw [E_L_law_487]
  simp only [Option.bind_some, rd_ h sc hL (show i + 1 < L by omega), rd_ h1 s1 hL (show i + 1 < L by omega), rd_ h sc hL (show i + 2 < L by omega), rd_ h1 s1 hL (show i + 2 < L by omega), c_sel h, k1, z_rI, ref_sel h1, r1]
  rw [if_pos trivial]
theorem S_put {L : Nat} {xs : Nat → Int32} {M : q_M} (J : JV L xs M) (hL : L ≤ 3584) {i : Nat} (hi : i + 7 ≤ L) (rn : gN M + 200 ≤ 600000) (rs : gS M + 300000 ≤ 7302250) : ∃ M2, q_RL T_L_law (520, [some (.inr (.inr (some 0))), some (.inr (.inr (some 1))), some (.inr (.inr (some 49))), some (.inl (nI i))], [], M) = q_RL T_L_law (1878, [some (.inr (.inr (some 0))), some (.inr (.inr (some 1))), some (.inr (.inr (some 49))), some (.inl (nI i))], [], M2) ∧ JV L xs M2 ∧ gN M2 ≤ gN M + 43 ∧ gS M2 ≤ gS M + 1200 := by
  have h : SH M := by obtain ⟨_, _, _, _, _, _, _, I⟩ := J; exact I.1
  have sc : SC L xs M := by obtain ⟨_, _, _, _, _, _, _, I⟩ := J; exact I.2.1
  obtain ⟨a, M1, M2, k1, h1, s1, r1, j2, n2, g2⟩ := O_put J rn rs (xs (i + 1)) (xs (i + 2)) (xs (i + 3)) (xs (i + 4)) (xs (i + 5)) (xs (i + 6))
  refine ⟨M2, ?_, j2, n2, g2⟩
  rw [E_L_law_520]
  simp only [Option.bind_some, rd_ h sc hL (show i + 1 < L by omega), rd_ h1 s1 hL (show i + 1 < L by omega), rd_ h sc hL (show i + 2 < L by omega), rd_ h1 s1 hL (show i + 2 < L by omega), rd_ h sc hL (show i + 3 < L by omega), rd_ h1 s1 hL (show i + 3 < L by omega), rd_ h sc hL (show i + 4 < L by omega), rd_ h1 s1 hL (show i + 4 < L by omega), rd_ h sc hL (show i + 5 < L by omega), rd_ h1 s1 hL (show i + 5 < L by omega), rd_ h sc hL (show i + 6 < L by omega), rd_ h1 s1 hL (show i + 6 < L by omega), c_sel h, k1, z_rI, ref_sel h1, r1]
  rw [if_pos trivial]
theorem S_drop {L : Nat} {xs : Nat → Int32} {M : q_M} (J : JV L xs M) (hL : L ≤ 3584) {i : Nat} (hi : i + 7 ≤ L) (rn : gN M + 200 ≤ 600000) (rs : gS M + 300000 ≤ 7302250) : ∃ M2, q_RL T_L_law (595, [some (.inr (.inr (some 0))), some (.inr (.inr (some 1))), some (.inr (.inr (some 49))), some (.inl (nI i))], [], M) = q_RL T_L_law (1878, [some (.inr (.inr (some 0))), some (.inr (.inr (some 1))), some (.inr (.inr (some 49))), some (.inl (nI i))], [], M2) ∧ JV L xs M2 ∧ gN M2 ≤ gN M + 43 ∧ gS M2 ≤ gS M + 1200 := by
  have h : SH M := by obtain ⟨_, _, _, _, _, _, _, I⟩ := J; exact I.1
  have sc : SC L xs M := by obtain ⟨_, _, _, _, _, _, _, I⟩ := J; exact I.2.1
  obtain ⟨a, M1, M2, k1, h1, s1, r1, j2, n2, g2⟩ := O_drop J rn rs (xs (i + 1)) (xs (i + 2))
  refine ⟨M2, ?_, j2, n2, g2⟩
  rw [E_L_law_595]
  simp only [Option.bind_some, rd_ h sc hL (show i + 1 < L by omega), rd_ h1 s1 hL (show i + 1 < L by omega), rd_ h sc hL (show i + 2 < L by omega), rd_ h1 s1 hL (show i + 2 < L by omega), c_sel h, k1, z_rI, ref_sel h1, r1]
  rw [if_pos trivial]
theorem S_move {L : Nat} {xs : Nat → Int32} {M : q_M} (J : JV L xs M) (hL : L ≤ 3584) {i : Nat} (hi : i + 7 ≤ L) (rn : gN M + 200 ≤ 600000) (rs : gS M + 300000 ≤ 7302250) : ∃ M2, q_RL T_L_law (628, [some (.inr (.inr (some 0))), some (.inr (.inr (some 1))), some (.inr (.inr (some 49))), some (.inl (nI i))], [], M) = q_RL T_L_law (1878, [some (.inr (.inr (some 0))), some (.inr (.inr (some 1))), some (.inr (.inr (some 49))), some (.inl (nI i))], [], M2) ∧ JV L xs M2 ∧ gN M2 ≤ gN M + 43 ∧ gS M2 ≤ gS M + 1200 := by
  have h : SH M := by obtain ⟨_, _, _, _, _, _, _, I⟩ := J; exact I.1
  have sc : SC L xs M := by obtain ⟨_, _, _, _, _, _, _, I⟩ := J; exact I.2.1
  obtain ⟨a, M1, M2, k1, h1, s1, r1, j2, n2, g2⟩ := O_move J rn rs (xs (i + 1)) (xs (i + 2)) (xs (i + 3)) (xs (i + 4)) (xs (i + 5))
  refine ⟨M2, ?_, j2, n2, g2⟩
  rw [E_L_law_628]
  simp only [Option.bind_some, rd_ h sc hL (show i + 1 < L by omega), rd_ h1 s1 hL (show i + 1 < L by omega), rd_ h sc hL (show i + 2 < L by omega), rd_ h1 s1 hL (show i + 2 < L by omega), rd_ h sc hL (show i + 3 < L by omega), rd_ h1 s1 hL (show i + 3 < L by omega), rd_ h sc hL (show i + 4 < L by omega), rd_ h1 s1 hL (show i + 4 < L by omega), rd_ h sc hL (show i + 5 < L by omega), rd_ h1 s1 hL (show i + 5 < L by omega), c_sel h, k1, z_rI, ref_sel h1, r1]
  rw [if_pos trivial]
theorem S_sow {L : Nat} {xs : Nat → Int32} {M : q_M} (J : JV L xs M) (hL : L ≤ 3584) {i : Nat} (hi : i + 7 ≤ L) (rn : gN M + 200 ≤ 600000) (rs : gS M + 300000 ≤ 7302250) : ∃ M2, q_RL T_L_law (691, [some (.inr (.inr (some 0))), some (.inr (.inr (some 1))), some (.inr (.inr (some 49))), some (.inl (nI i))], [], M) = q_RL T_L_law (1878, [some (.inr (.inr (some 0))), some (.inr (.inr (some 1))), some (.inr (.inr (some 49))), some (.inl (nI i))], [], M2) ∧ JV L xs M2 ∧ gN M2 ≤ gN M + 43 ∧ gS M2 ≤ gS M + 1200 := by
  have h : SH M := by obtain ⟨_, _, _, _, _, _, _, I⟩ := J; exact I.1
  have sc : SC L xs M := by obtain ⟨_, _, _, _, _, _, _, I⟩ := J; exact I.2.1
  obtain ⟨a, M1, M2, k1, h1, s1, r1, j2, n2, g2⟩ := O_sow J rn rs (xs (i + 1)) (xs (i + 2)) (xs (i + 3))
  refine ⟨M2, ?_, j2, n2, g2⟩
  rw [E_L_law_691]
  simp only [Option.bind_some, rd_ h sc hL (show i + 1 < L by omega), rd_ h1 s1 hL (show i + 1 < L by omega), rd_ h sc hL (show i + 2 < L by omega), rd_ h1 s1 hL (show i + 2 < L by omega), rd_ h sc hL (show i + 3 < L by omega), rd_ h1 s1 hL (show i + 3 < L by omega), c_sel h, k1, z_rI, ref_sel h1, r1]
  rw [if_pos trivial]
theorem S_find {L : Nat} {xs : Nat → Int32} {M : q_M} (J : JV L xs M) (hL : L ≤ 3584) {i : Nat} (hi : i + 7 ≤ L) (rn : gN M + 200 ≤ 600000) (rs : gS M + 300000 ≤ 7302250) : ∃ M2, q_RL T_L_law (734, [some (.inr (.inr (some 0))), some (.inr (.inr (some 1))), some (.inr (.inr (some 49))), some (.inl (nI i))], [], M) = q_RL T_L_law (1878, [some (.inr (.inr (some 0))), some (.inr (.inr (some 1))), some (.inr (.inr (some 49))), some (.inl (nI i))], [], M2) ∧ JV L xs M2 ∧ gN M2 ≤ gN M + 43 ∧ gS M2 ≤ gS M + 1200 := by
  have h : SH M := by obtain ⟨_, _, _, _, _, _, _, I⟩ := J; exact I.1
  have sc : SC L xs M := by obtain ⟨_, _, _, _, _, _, _, I⟩ := J; exact I.2.1
  obtain ⟨a, M1, M2, k1, h1, s1, r1, j2, n2, g2⟩ := O_find J (xs (i + 1)) (xs (i + 2))
  refine ⟨M2, ?_, j2, n2, g2⟩
  rw [E_L_law_734]
  simp only [Option.bind_some, rd_ h sc hL (show i + 1 < L by omega), rd_ h1 s1 hL (show i + 1 < L by omega), rd_ h sc hL (show i + 2 < L by omega), rd_ h1 s1 hL (show i + 2 < L by omega), c_sel h, k1, z_rI, ref_sel h1, r1]
  rw [if_pos trivial]
theorem S_at {L : Nat} {xs : Nat → Int32} {M : q_M} (J : JV L xs M) (hL : L ≤ 3584) {i : Nat} (hi : i + 7 ≤ L) (rn : gN M + 200 ≤ 600000) (rs : gS M + 300000 ≤ 7302250) : ∃ M2, q_RL T_L_law (767, [some (.inr (.inr (some 0))), some (.inr (.inr (some 1))), some (.inr (.inr (some 49))), some (.inl (nI i))], [], M) = q_RL T_L_law (1878, [some (.inr (.inr (some 0))), some (.inr (.inr (some 1))), some (.inr (.inr (some 49))), some (.inl (nI i))], [], M2) ∧ JV L xs M2 ∧ gN M2 ≤ gN M + 43 ∧ gS M2 ≤ gS M + 1200 := by
  have h : SH M := by obtain ⟨_, _, _, _, _, _, _, I⟩ := J; exact I.1
  have sc : SC L xs M := by obtain ⟨_, _, _, _, _, _, _, I⟩ := J; exact I.2.1
  obtain ⟨a, M1, M2, k1, h1, s1, r1, j2, n2, g2⟩ := O_at J (xs (i + 1)) (xs (i + 2)) (xs (i + 3))
  refine ⟨M2, ?_, j2, n2, g2⟩
  rw [E_L_law_767]
  simp only [Option.bind_some, rd_ h sc hL (show i + 1 < L by omega), rd_ h1 s1 hL (show i + 1 < L by omega), rd_ h sc hL (show i + 2 < L by omega), rd_ h1 s1 hL (show i + 2 < L by omega), rd_ h sc hL (show i + 3 < L by omega), rd_ h1 s1 hL (show i + 3 < L by omega), c_sel h, k1, z_rI, ref_sel h1, r1]
  rw [if_pos trivial]
theorem S_count {L : Nat} {xs : Nat → Int32} {M : q_M} (J : JV L xs M) (hL : L ≤ 3584) {i : Nat} (hi : i + 7 ≤ L) (rn : gN M + 200 ≤ 600000) (rs : gS M + 300000 ≤ 7302250) : ∃ M2, q_RL T_L_law (810, [some (.inr (.inr (some 0))), some (.inr (.inr (some 1))), some (.inr (.inr (some 49))), some (.inl (nI i))], [], M) = q_RL T_L_law (1878, [some (.inr (.inr (some 0))), some (.inr (.inr (some 1))), some (.inr (.inr (some 49))), some (.inl (nI i))], [], M2) ∧ JV L xs M2 ∧ gN M2 ≤ gN M + 43 ∧ gS M2 ≤ gS M + 1200 := by
  have h : SH M := by obtain ⟨_, _, _, _, _, _, _, I⟩ := J; exact I.1
  have sc : SC L xs M := by obtain ⟨_, _, _, _, _, _, _, I⟩ := J; exact I.2.1
  obtain ⟨a, M1, M2, k1, h1, s1, r1, j2, n2, g2⟩ := O_count J (xs (i + 1)) (xs (i + 2))
  refine ⟨M2, ?_, j2, n2, g2⟩
  rw [E_L_law_810]
  simp only [Option.bind_some, rd_ h sc hL (show i + 1 < L by omega), rd_ h1 s1 hL (show i + 1 < L by omega), rd_ h sc hL (show i + 2 < L by omega), rd_ h1 s1 hL (show i + 2 < L by omega), c_sel h, k1, z_rI, ref_sel h1, r1]
  rw [if_pos trivial]
theorem S_page {L : Nat} {xs : Nat → Int32} {M : q_M} (J : JV L xs M) (hL : L ≤ 3584) {i : Nat} (hi : i + 7 ≤ L) (rn : gN M + 200 ≤ 600000) (rs : gS M + 300000 ≤ 7302250) : ∃ M2, q_RL T_L_law (843, [some (.inr (.inr (some 0))), some (.inr (.inr (some 1))), some (.inr (.inr (some 49))), some (.inl (nI i))], [], M) = q_RL T_L_law (1878, [some (.inr (.inr (some 0))), some (.inr (.inr (some 1))), some (.inr (.inr (some 49))), some (.inl (nI i))], [], M2) ∧ JV L xs M2 ∧ gN M2 ≤ gN M + 43 ∧ gS M2 ≤ gS M + 1200 := by
  have h : SH M := by obtain ⟨_, _, _, _, _, _, _, I⟩ := J; exact I.1
  have sc : SC L xs M := by obtain ⟨_, _, _, _, _, _, _, I⟩ := J; exact I.2.1
  obtain ⟨a, M1, M2, k1, h1, s1, r1, j2, n2, g2⟩ := O_page J (xs (i + 1)) (xs (i + 2)) (xs (i + 3))
  refine ⟨M2, ?_, j2, n2, g2⟩
  rw [E_L_law_843]
  simp only [Option.bind_some, rd_ h sc hL (show i + 1 < L by omega), rd_ h1 s1 hL (show i + 1 < L by omega), rd_ h sc hL (show i + 2 < L by omega), rd_ h1 s1 hL (show i + 2 < L by omega), rd_ h sc hL (show i + 3 < L by omega), rd_ h1 s1 hL (show i + 3 < L by omega), c_sel h, k1, z_rI, ref_sel h1, r1]
  rw [if_pos trivial]
theorem S_undo {L : Nat} {xs : Nat → Int32} {M : q_M} (J : JV L xs M) (hL : L ≤ 3584) {i : Nat} (hi : i + 7 ≤ L) (rn : gN M + 200 ≤ 600000) (rs : gS M + 300000 ≤ 7302250) : ∃ M2, q_RL T_L_law (886, [some (.inr (.inr (some 0))), some (.inr (.inr (some 1))), some (.inr (.inr (some 49))), some (.inl (nI i))], [], M) = q_RL T_L_law (1878, [some (.inr (.inr (some 0))), some (.inr (.inr (some 1))), some (.inr (.inr (some 49))), some (.inl (nI i))], [], M2) ∧ JV L xs M2 ∧ gN M2 ≤ gN M + 43 ∧ gS M2 ≤ gS M + 1200 := by
  have h : SH M := by obtain ⟨_, _, _, _, _, _, _, I⟩ := J; exact I.1
  have sc : SC L xs M := by obtain ⟨_, _, _, _, _, _, _, I⟩ := J; exact I.2.1
  obtain ⟨a, M1, M2, k1, h1, s1, r1, j2, n2, g2⟩ := O_undo J (xs (i + 1))
  refine ⟨M2, ?_, j2, n2, g2⟩
  rw [E_L_law_886]
  simp only [Option.bind_some, rd_ h sc hL (show i + 1 < L by omega), rd_ h1 s1 hL (show i + 1 < L by omega), c_sel h, k1, z_rI, ref_sel h1, r1]
  rw [if_pos trivial]
theorem S_low {L : Nat} {xs : Nat → Int32} {M : q_M} (J : JV L xs M) (hL : L ≤ 3584) {i : Nat} (hi : i + 7 ≤ L) (rn : gN M + 200 ≤ 600000) (rs : gS M + 300000 ≤ 7302250) : ∃ M2, q_RL T_L_law (909, [some (.inr (.inr (some 0))), some (.inr (.inr (some 1))), some (.inr (.inr (some 49))), some (.inl (nI i))], [], M) = q_RL T_L_law (1878, [some (.inr (.inr (some 0))), some (.inr (.inr (some 1))), some (.inr (.inr (some 49))), some (.inl (nI i))], [], M2) ∧ JV L xs M2 ∧ gN M2 ≤ gN M + 43 ∧ gS M2 ≤ gS M + 1200 := by
  have h : SH M := by obtain ⟨_, _, _, _, _, _, _, I⟩ := J; exact I.1
  have sc : SC L xs M := by obtain ⟨_, _, _, _, _, _, _, I⟩ := J; exact I.2.1
  obtain ⟨M1, M2, k1, h1, s1, r1, j2, n2, g2⟩ := O_low J (xs (i + 1)) (xs (i + 2)) (xs (i + 3))
  refine ⟨M2, ?_, j2, n2, g2⟩
  rw [E_L_law_909]
  simp only [Option.bind_some, rd_ h sc hL (show i + 1 < L by omega), rd_ h1 s1 hL (show i + 1 < L by omega), rd_ h sc hL (show i + 2 < L by omega), rd_ h1 s1 hL (show i + 2 < L by omega), rd_ h sc hL (show i + 3 < L by omega), rd_ h1 s1 hL (show i + 3 < L by omega), c_sel h, k1, z_rV, ref_sel h1, r1]
theorem S_high {L : Nat} {xs : Nat → Int32} {M : q_M} (J : JV L xs M) (hL : L ≤ 3584) {i : Nat} (hi : i + 7 ≤ L) (rn : gN M + 200 ≤ 600000) (rs : gS M + 300000 ≤ 7302250) : ∃ M2, q_RL T_L_law (950, [some (.inr (.inr (some 0))), some (.inr (.inr (some 1))), some (.inr (.inr (some 49))), some (.inl (nI i))], [], M) = q_RL T_L_law (1878, [some (.inr (.inr (some 0))), some (.inr (.inr (some 1))), some (.inr (.inr (some 49))), some (.inl (nI i))], [], M2) ∧ JV L xs M2 ∧ gN M2 ≤ gN M + 43 ∧ gS M2 ≤ gS M + 1200 := by
  have h : SH M := by obtain ⟨_, _, _, _, _, _, _, I⟩ := J; exact I.1
  have sc : SC L xs M := by obtain ⟨_, _, _, _, _, _, _, I⟩ := J; exact I.2.1
  obtain ⟨M1, M2, k1, h1, s1, r1, j2, n2, g2⟩ := O_high J (xs (i + 1)) (xs (i + 2)) (xs (i + 3))
  refine ⟨M2, ?_, j2, n2, g2⟩
  rw [E_L_law_950]
  simp only [Option.bind_some, rd_ h sc hL (show i + 1 < L by omega), rd_ h1 s1 hL (show i + 1 < L by omega), rd_ h sc hL (show i + 2 < L by omega), rd_ h1 s1 hL (show i + 2 < L by omega), rd_ h sc hL (show i + 3 < L by omega), rd_ h1 s1 hL (show i + 3 < L by omega), c_sel h, k1, z_rV, ref_sel h1, r1]
theorem S_spans {L : Nat} {xs : Nat → Int32} {M : q_M} (J : JV L xs M) (hL : L ≤ 3584) {i : Nat} (hi : i + 7 ≤ L) (rn : gN M + 200 ≤ 600000) (rs : gS M + 300000 ≤ 7302250) : ∃ M2, q_RL T_L_law (991, [some (.inr (.inr (some 0))), some (.inr (.inr (some 1))), some (.inr (.inr (some 49))), some (.inl (nI i))], [], M) = q_RL T_L_law (1878, [some (.inr (.inr (some 0))), some (.inr (.inr (some 1))), some (.inr (.inr (some 49))), some (.inl (nI i))], [], M2) ∧ JV L xs M2 ∧ gN M2 ≤ gN M + 43 ∧ gS M2 ≤ gS M + 1200 := by
  have h : SH M := by obtain ⟨_, _, _, _, _, _, _, I⟩ := J; exact I.1
  have sc : SC L xs M := by obtain ⟨_, _, _, _, _, _, _, I⟩ := J; exact I.2.1
  obtain ⟨a, M1, M2, k1, h1, s1, r1, j2, n2, g2⟩ := O_spans J (xs (i + 1))
  refine ⟨M2, ?_, j2, n2, g2⟩
  rw [E_L_law_991]
  simp only [Option.bind_some, rd_ h sc hL (show i + 1 < L by omega), rd_ h1 s1 hL (show i + 1 < L by omega), c_sel h, k1, z_rI, ref_sel h1, r1]
  rw [if_pos trivial]
theorem S_span {L : Nat} {xs : Nat → Int32} {M : q_M} (J : JV L xs M) (hL : L ≤ 3584) {i : Nat} (hi : i + 7 ≤ L) (rn : gN M + 200 ≤ 600000) (rs : gS M + 300000 ≤ 7302250) : ∃ M2, q_RL T_L_law (1014, [some (.inr (.inr (some 0))), some (.inr (.inr (some 1))), some (.inr (.inr (some 49))), some (.inl (nI i))], [], M) = q_RL T_L_law (1878, [some (.inr (.inr (some 0))), some (.inr (.inr (some 1))), some (.inr (.inr (some 49))), some (.inl (nI i))], [], M2) ∧ JV L xs M2 ∧ gN M2 ≤ gN M + 43 ∧ gS M2 ≤ gS M + 1200 := by
  have h : SH M := by obtain ⟨_, _, _, _, _, _, _, I⟩ := J; exact I.1
  have sc : SC L xs M := by obtain ⟨_, _, _, _, _, _, _, I⟩ := J; exact I.2.1
  obtain ⟨a, M1, M2, k1, h1, s1, r1, j2, n2, g2⟩ := O_span J (xs (i + 1)) (xs (i + 2))
  refine ⟨M2, ?_, j2, n2, g2⟩
  rw [E_L_law_1014]
  simp only [Option.bind_some, rd_ h sc hL (show i + 1 < L by omega), rd_ h1 s1 hL (show i + 1 < L by omega), rd_ h sc hL (show i + 2 < L by omega), rd_ h1 s1 hL (show i + 2 < L by omega), c_sel h, k1, z_rL, ref_sel h1, r1]
  simp only [lg_cmp_eq]
  rw [if_pos trivial]
theorem S_few {L : Nat} {xs : Nat → Int32} {M : q_M} (J : JV L xs M) (hL : L ≤ 3584) {i : Nat} (hi : i + 7 ≤ L) (rn : gN M + 200 ≤ 600000) (rs : gS M + 300000 ≤ 7302250) : ∃ M2, q_RL T_L_law (1048, [some (.inr (.inr (some 0))), some (.inr (.inr (some 1))), some (.inr (.inr (some 49))), some (.inl (nI i))], [], M) = q_RL T_L_law (1878, [some (.inr (.inr (some 0))), some (.inr (.inr (some 1))), some (.inr (.inr (some 49))), some (.inl (nI i))], [], M2) ∧ JV L xs M2 ∧ gN M2 ≤ gN M + 43 ∧ gS M2 ≤ gS M + 1200 := by
  have h : SH M := by obtain ⟨_, _, _, _, _, _, _, I⟩ := J; exact I.1
  have sc : SC L xs M := by obtain ⟨_, _, _, _, _, _, _, I⟩ := J; exact I.2.1
  obtain ⟨a, M1, M2, k1, h1, s1, r1, j2, n2, g2⟩ := O_few J (xs (i + 1))
  refine ⟨M2, ?_, j2, n2, g2⟩
  rw [E_L_law_1048]
  simp only [Option.bind_some, rd_ h sc hL (show i + 1 < L by omega), rd_ h1 s1 hL (show i + 1 < L by omega), c_sel h, k1, z_rI, ref_sel h1, r1]
  rw [if_pos trivial]
theorem S_beyond {L : Nat} {xs : Nat → Int32} {M : q_M} (J : JV L xs M) (hL : L ≤ 3584) {i : Nat} (hi : i + 7 ≤ L) (rn : gN M + 200 ≤ 600000) (rs : gS M + 300000 ≤ 7302250) : ∃ M2, q_RL T_L_law (1071, [some (.inr (.inr (some 0))), some (.inr (.inr (some 1))), some (.inr (.inr (some 49))), some (.inl (nI i))], [], M) = q_RL T_L_law (1878, [some (.inr (.inr (some 0))), some (.inr (.inr (some 1))), some (.inr (.inr (some 49))), some (.inl (nI i))], [], M2) ∧ JV L xs M2 ∧ gN M2 ≤ gN M + 43 ∧ gS M2 ≤ gS M + 1200 := by
  have h : SH M := by obtain ⟨_, _, _, _, _, _, _, I⟩ := J; exact I.1
  have sc : SC L xs M := by obtain ⟨_, _, _, _, _, _, _, I⟩ := J; exact I.2.1
  obtain ⟨a, M1, M2, k1, h1, s1, r1, j2, n2, g2⟩ := O_beyond J 
  refine ⟨M2, ?_, j2, n2, g2⟩
  rw [E_L_law_1071]
  simp only [Option.bind_some, c_sel h, k1, z_rL, ref_sel h1, r1]
  simp only [lg_cmp_eq]
  rw [if_pos trivial]
theorem S_jump {L : Nat} {xs : Nat → Int32} {M : q_M} (J : JV L xs M) (hL : L ≤ 3584) {i : Nat} (hi : i + 7 ≤ L) (rn : gN M + 200 ≤ 600000) (rs : gS M + 300000 ≤ 7302250) : ∃ M2, q_RL T_L_law (1085, [some (.inr (.inr (some 0))), some (.inr (.inr (some 1))), some (.inr (.inr (some 49))), some (.inl (nI i))], [], M) = q_RL T_L_law (1878, [some (.inr (.inr (some 0))), some (.inr (.inr (some 1))), some (.inr (.inr (some 49))), some (.inl (nI i))], [], M2) ∧ JV L xs M2 ∧ gN M2 ≤ gN M + 43 ∧ gS M2 ≤ gS M + 1200 := by
  have h : SH M := by obtain ⟨_, _, _, _, _, _, _, I⟩ := J; exact I.1
  have sc : SC L xs M := by obtain ⟨_, _, _, _, _, _, _, I⟩ := J; exact I.2.1
  obtain ⟨a, M1, M2, k1, h1, s1, r1, j2, n2, g2⟩ := O_jump J (xs (i + 1)) ((Int32.toInt64 (xs (i + 2)) <<< (Int32.toInt64 (nI 32) &&& 63)) ||| (Int32.toInt64 (xs (i + 3)) &&& (lN 4294967295)))
  refine ⟨M2, ?_, j2, n2, g2⟩
  rw [E_L_law_1085]
  simp only [Option.bind_some, rd_ h sc hL (show i + 1 < L by omega), rd_ h1 s1 hL (show i + 1 < L by omega), rd_ h sc hL (show i + 2 < L by omega), rd_ h1 s1 hL (show i + 2 < L by omega), rd_ h sc hL (show i + 3 < L by omega), rd_ h1 s1 hL (show i + 3 < L by omega), c_sel h, k1, z_rL, ref_sel h1, r1]
  simp only [lg_cmp_eq]
  rw [if_pos trivial]
theorem S_points {L : Nat} {xs : Nat → Int32} {M : q_M} (J : JV L xs M) (hL : L ≤ 3584) {i : Nat} (hi : i + 7 ≤ L) (rn : gN M + 200 ≤ 600000) (rs : gS M + 300000 ≤ 7302250) : ∃ M2, q_RL T_L_law (1149, [some (.inr (.inr (some 0))), some (.inr (.inr (some 1))), some (.inr (.inr (some 49))), some (.inl (nI i))], [], M) = q_RL T_L_law (1878, [some (.inr (.inr (some 0))), some (.inr (.inr (some 1))), some (.inr (.inr (some 49))), some (.inl (nI i))], [], M2) ∧ JV L xs M2 ∧ gN M2 ≤ gN M + 43 ∧ gS M2 ≤ gS M + 1200 := by
  have h : SH M := by obtain ⟨_, _, _, _, _, _, _, I⟩ := J; exact I.1
  have sc : SC L xs M := by obtain ⟨_, _, _, _, _, _, _, I⟩ := J; exact I.2.1
  obtain ⟨a, M1, M2, k1, h1, s1, r1, j2, n2, g2⟩ := O_points J (xs (i + 1))
  refine ⟨M2, ?_, j2, n2, g2⟩
  rw [E_L_law_1149]
  simp only [Option.bind_some, rd_ h sc hL (show i + 1 < L by omega), rd_ h1 s1 hL (show i + 1 < L by omega), c_sel h, k1, z_rI, ref_sel h1, r1]
  rw [if_pos trivial]
theorem S_nearest {L : Nat} {xs : Nat → Int32} {M : q_M} (J : JV L xs M) (hL : L ≤ 3584) {i : Nat} (hi : i + 7 ≤ L) (rn : gN M + 200 ≤ 600000) (rs : gS M + 300000 ≤ 7302250) : ∃ M2, q_RL T_L_law (1172, [some (.inr (.inr (some 0))), some (.inr (.inr (some 1))), some (.inr (.inr (some 49))), some (.inl (nI i))], [], M) = q_RL T_L_law (1878, [some (.inr (.inr (some 0))), some (.inr (.inr (some 1))), some (.inr (.inr (some 49))), some (.inl (nI i))], [], M2) ∧ JV L xs M2 ∧ gN M2 ≤ gN M + 43 ∧ gS M2 ≤ gS M + 1200 := by
  have h : SH M := by obtain ⟨_, _, _, _, _, _, _, I⟩ := J; exact I.1
  have sc : SC L xs M := by obtain ⟨_, _, _, _, _, _, _, I⟩ := J; exact I.2.1
  obtain ⟨a, M1, M2, k1, h1, s1, r1, j2, n2, g2⟩ := O_nearest J (xs (i + 1)) (xs (i + 2)) (xs (i + 3)) (xs (i + 4)) (xs (i + 5)) (xs (i + 6))
  refine ⟨M2, ?_, j2, n2, g2⟩
  rw [E_L_law_1172]
  simp only [Option.bind_some, rd_ h sc hL (show i + 1 < L by omega), rd_ h1 s1 hL (show i + 1 < L by omega), rd_ h sc hL (show i + 2 < L by omega), rd_ h1 s1 hL (show i + 2 < L by omega), rd_ h sc hL (show i + 3 < L by omega), rd_ h1 s1 hL (show i + 3 < L by omega), rd_ h sc hL (show i + 4 < L by omega), rd_ h1 s1 hL (show i + 4 < L by omega), rd_ h sc hL (show i + 5 < L by omega), rd_ h1 s1 hL (show i + 5 < L by omega), rd_ h sc hL (show i + 6 < L by omega), rd_ h1 s1 hL (show i + 6 < L by omega), c_sel h, k1, z_rI, ref_sel h1, r1]
  rw [if_pos trivial]
theorem S_within {L : Nat} {xs : Nat → Int32} {M : q_M} (J : JV L xs M) (hL : L ≤ 3584) {i : Nat} (hi : i + 7 ≤ L) (rn : gN M + 200 ≤ 600000) (rs : gS M + 300000 ≤ 7302250) : ∃ M2, q_RL T_L_law (1247, [some (.inr (.inr (some 0))), some (.inr (.inr (some 1))), some (.inr (.inr (some 49))), some (.inl (nI i))], [], M) = q_RL T_L_law (1878, [some (.inr (.inr (some 0))), some (.inr (.inr (some 1))), some (.inr (.inr (some 49))), some (.inl (nI i))], [], M2) ∧ JV L xs M2 ∧ gN M2 ≤ gN M + 43 ∧ gS M2 ≤ gS M + 1200 := by
  have h : SH M := by obtain ⟨_, _, _, _, _, _, _, I⟩ := J; exact I.1
  have sc : SC L xs M := by obtain ⟨_, _, _, _, _, _, _, I⟩ := J; exact I.2.1
  obtain ⟨a, M1, M2, k1, h1, s1, r1, j2, n2, g2⟩ := O_within J (xs (i + 1)) (xs (i + 2)) (xs (i + 3)) (xs (i + 4)) (xs (i + 5)) (xs (i + 6))
  refine ⟨M2, ?_, j2, n2, g2⟩
  rw [E_L_law_1247]
  simp only [Option.bind_some, rd_ h sc hL (show i + 1 < L by omega), rd_ h1 s1 hL (show i + 1 < L by omega), rd_ h sc hL (show i + 2 < L by omega), rd_ h1 s1 hL (show i + 2 < L by omega), rd_ h sc hL (show i + 3 < L by omega), rd_ h1 s1 hL (show i + 3 < L by omega), rd_ h sc hL (show i + 4 < L by omega), rd_ h1 s1 hL (show i + 4 < L by omega), rd_ h sc hL (show i + 5 < L by omega), rd_ h1 s1 hL (show i + 5 < L by omega), rd_ h sc hL (show i + 6 < L by omega), rd_ h1 s1 hL (show i + 6 < L by omega), c_sel h, k1, z_rI, ref_sel h1, r1]
  rw [if_pos trivial]
theorem S_pairs {L : Nat} {xs : Nat → Int32} {M : q_M} (J : JV L xs M) (hL : L ≤ 3584) {i : Nat} (hi : i + 7 ≤ L) (rn : gN M + 200 ≤ 600000) (rs : gS M + 300000 ≤ 7302250) : ∃ M2, q_RL T_L_law (1322, [some (.inr (.inr (some 0))), some (.inr (.inr (some 1))), some (.inr (.inr (some 49))), some (.inl (nI i))], [], M) = q_RL T_L_law (1878, [some (.inr (.inr (some 0))), some (.inr (.inr (some 1))), some (.inr (.inr (some 49))), some (.inl (nI i))], [], M2) ∧ JV L xs M2 ∧ gN M2 ≤ gN M + 43 ∧ gS M2 ≤ gS M + 1200 := by
  have h : SH M := by obtain ⟨_, _, _, _, _, _, _, I⟩ := J; exact I.1
  have sc : SC L xs M := by obtain ⟨_, _, _, _, _, _, _, I⟩ := J; exact I.2.1
  obtain ⟨a, M1, M2, k1, h1, s1, r1, j2, n2, g2⟩ := O_pairs J (xs (i + 1)) (xs (i + 2))
  refine ⟨M2, ?_, j2, n2, g2⟩
  rw [E_L_law_1322]
  simp only [Option.bind_some, rd_ h sc hL (show i + 1 < L by omega), rd_ h1 s1 hL (show i + 1 < L by omega), rd_ h sc hL (show i + 2 < L by omega), rd_ h1 s1 hL (show i + 2 < L by omega), c_sel h, k1, z_rI, ref_sel h1, r1]
  rw [if_pos trivial]
theorem S_found {L : Nat} {xs : Nat → Int32} {M : q_M} (J : JV L xs M) (hL : L ≤ 3584) {i : Nat} (hi : i + 7 ≤ L) (rn : gN M + 200 ≤ 600000) (rs : gS M + 300000 ≤ 7302250) : ∃ M2, q_RL T_L_law (1355, [some (.inr (.inr (some 0))), some (.inr (.inr (some 1))), some (.inr (.inr (some 49))), some (.inl (nI i))], [], M) = q_RL T_L_law (1878, [some (.inr (.inr (some 0))), some (.inr (.inr (some 1))), some (.inr (.inr (some 49))), some (.inl (nI i))], [], M2) ∧ JV L xs M2 ∧ gN M2 ≤ gN M + 43 ∧ gS M2 ≤ gS M + 1200 := by
  have h : SH M := by obtain ⟨_, _, _, _, _, _, _, I⟩ := J; exact I.1
  have sc : SC L xs M := by obtain ⟨_, _, _, _, _, _, _, I⟩ := J; exact I.2.1
  obtain ⟨a, M1, M2, k1, h1, s1, r1, j2, n2, g2⟩ := O_found J (xs (i + 1)) (xs (i + 2))
  refine ⟨M2, ?_, j2, n2, g2⟩
  rw [E_L_law_1355]
  simp only [Option.bind_some, rd_ h sc hL (show i + 1 < L by omega), rd_ h1 s1 hL (show i + 1 < L by omega), rd_ h sc hL (show i + 2 < L by omega), rd_ h1 s1 hL (show i + 2 < L by omega), c_sel h, k1, z_rL, ref_sel h1, r1]
  simp only [lg_cmp_eq]
  rw [if_pos trivial]
theorem S_spent {L : Nat} {xs : Nat → Int32} {M : q_M} (J : JV L xs M) (hL : L ≤ 3584) {i : Nat} (hi : i + 7 ≤ L) (rn : gN M + 200 ≤ 600000) (rs : gS M + 300000 ≤ 7302250) : ∃ M2, q_RL T_L_law (1389, [some (.inr (.inr (some 0))), some (.inr (.inr (some 1))), some (.inr (.inr (some 49))), some (.inl (nI i))], [], M) = q_RL T_L_law (1878, [some (.inr (.inr (some 0))), some (.inr (.inr (some 1))), some (.inr (.inr (some 49))), some (.inl (nI i))], [], M2) ∧ JV L xs M2 ∧ gN M2 ≤ gN M + 43 ∧ gS M2 ≤ gS M + 1200 := by
  have h : SH M := by obtain ⟨_, _, _, _, _, _, _, I⟩ := J; exact I.1
  have sc : SC L xs M := by obtain ⟨_, _, _, _, _, _, _, I⟩ := J; exact I.2.1
  obtain ⟨a, M1, M2, k1, h1, s1, r1, j2, n2, g2⟩ := O_spent J (xs (i + 1))
  refine ⟨M2, ?_, j2, n2, g2⟩
  rw [E_L_law_1389]
  simp only [Option.bind_some, rd_ h sc hL (show i + 1 < L by omega), rd_ h1 s1 hL (show i + 1 < L by omega), c_sel h, k1, z_rI, ref_sel h1, r1]
  rw [if_pos trivial]
theorem S_mean {L : Nat} {xs : Nat → Int32} {M : q_M} (J : JV L xs M) (hL : L ≤ 3584) {i : Nat} (hi : i + 7 ≤ L) (rn : gN M + 200 ≤ 600000) (rs : gS M + 300000 ≤ 7302250) : ∃ M2, q_RL T_L_law (1412, [some (.inr (.inr (some 0))), some (.inr (.inr (some 1))), some (.inr (.inr (some 49))), some (.inl (nI i))], [], M) = q_RL T_L_law (1878, [some (.inr (.inr (some 0))), some (.inr (.inr (some 1))), some (.inr (.inr (some 49))), some (.inl (nI i))], [], M2) ∧ JV L xs M2 ∧ gN M2 ≤ gN M + 43 ∧ gS M2 ≤ gS M + 1200 := by
  have h : SH M := by obtain ⟨_, _, _, _, _, _, _, I⟩ := J; exact I.1
  have sc : SC L xs M := by obtain ⟨_, _, _, _, _, _, _, I⟩ := J; exact I.2.1
  obtain ⟨a, M1, M2, k1, h1, s1, r1, j2, n2, g2⟩ := O_mean J (xs (i + 1)) (xs (i + 2)) (xs (i + 3)) (xs (i + 4)) (xs (i + 5))
  refine ⟨M2, ?_, j2, n2, g2⟩
  rw [E_L_law_1412]
  simp only [Option.bind_some, rd_ h sc hL (show i + 1 < L by omega), rd_ h1 s1 hL (show i + 1 < L by omega), rd_ h sc hL (show i + 2 < L by omega), rd_ h1 s1 hL (show i + 2 < L by omega), rd_ h sc hL (show i + 3 < L by omega), rd_ h1 s1 hL (show i + 3 < L by omega), rd_ h sc hL (show i + 4 < L by omega), rd_ h1 s1 hL (show i + 4 < L by omega), rd_ h sc hL (show i + 5 < L by omega), rd_ h1 s1 hL (show i + 5 < L by omega), c_sel h, k1, z_rL, ref_sel h1, r1]
  simp only [lg_cmp_eq]
  rw [if_pos trivial]
theorem S_compare {L : Nat} {xs : Nat → Int32} {M : q_M} (J : JV L xs M) (hL : L ≤ 3584) {i : Nat} (hi : i + 7 ≤ L) (rn : gN M + 200 ≤ 600000) (rs : gS M + 300000 ≤ 7302250) : ∃ M2, q_RL T_L_law (1476, [some (.inr (.inr (some 0))), some (.inr (.inr (some 1))), some (.inr (.inr (some 49))), some (.inl (nI i))], [], M) = q_RL T_L_law (1878, [some (.inr (.inr (some 0))), some (.inr (.inr (some 1))), some (.inr (.inr (some 49))), some (.inl (nI i))], [], M2) ∧ JV L xs M2 ∧ gN M2 ≤ gN M + 43 ∧ gS M2 ≤ gS M + 1200 := by
  have h : SH M := by obtain ⟨_, _, _, _, _, _, _, I⟩ := J; exact I.1
  have sc : SC L xs M := by obtain ⟨_, _, _, _, _, _, _, I⟩ := J; exact I.2.1
  obtain ⟨a, M1, M2, k1, h1, s1, r1, j2, n2, g2⟩ := O_compare J (xs (i + 1)) (xs (i + 2)) (xs (i + 3)) (xs (i + 4)) (xs (i + 5))
  refine ⟨M2, ?_, j2, n2, g2⟩
  rw [E_L_law_1476]
  simp only [Option.bind_some, rd_ h sc hL (show i + 1 < L by omega), rd_ h1 s1 hL (show i + 1 < L by omega), rd_ h sc hL (show i + 2 < L by omega), rd_ h1 s1 hL (show i + 2 < L by omega), rd_ h sc hL (show i + 3 < L by omega), rd_ h1 s1 hL (show i + 3 < L by omega), rd_ h sc hL (show i + 4 < L by omega), rd_ h1 s1 hL (show i + 4 < L by omega), rd_ h sc hL (show i + 5 < L by omega), rd_ h1 s1 hL (show i + 5 < L by omega), c_sel h, k1, z_rI, ref_sel h1, r1]
  rw [if_pos trivial]
theorem S_witness {L : Nat} {xs : Nat → Int32} {M : q_M} (J : JV L xs M) (hL : L ≤ 3584) {i : Nat} (hi : i + 7 ≤ L) (rn : gN M + 200 ≤ 600000) (rs : gS M + 300000 ≤ 7302250) : ∃ M2, q_RL T_L_law (1539, [some (.inr (.inr (some 0))), some (.inr (.inr (some 1))), some (.inr (.inr (some 49))), some (.inl (nI i))], [], M) = q_RL T_L_law (1878, [some (.inr (.inr (some 0))), some (.inr (.inr (some 1))), some (.inr (.inr (some 49))), some (.inl (nI i))], [], M2) ∧ JV L xs M2 ∧ gN M2 ≤ gN M + 43 ∧ gS M2 ≤ gS M + 1200 := by
  have h : SH M := by obtain ⟨_, _, _, _, _, _, _, I⟩ := J; exact I.1
  have sc : SC L xs M := by obtain ⟨_, _, _, _, _, _, _, I⟩ := J; exact I.2.1
  obtain ⟨a, M1, M2, k1, h1, s1, r1, j2, n2, g2⟩ := O_witness J (xs (i + 1)) (xs (i + 2)) (xs (i + 3)) (xs (i + 4)) (xs (i + 5)) (xs (i + 6))
  refine ⟨M2, ?_, j2, n2, g2⟩
  rw [E_L_law_1539]
  simp only [Option.bind_some, rd_ h sc hL (show i + 1 < L by omega), rd_ h1 s1 hL (show i + 1 < L by omega), rd_ h sc hL (show i + 2 < L by omega), rd_ h1 s1 hL (show i + 2 < L by omega), rd_ h sc hL (show i + 3 < L by omega), rd_ h1 s1 hL (show i + 3 < L by omega), rd_ h sc hL (show i + 4 < L by omega), rd_ h1 s1 hL (show i + 4 < L by omega), rd_ h sc hL (show i + 5 < L by omega), rd_ h1 s1 hL (show i + 5 < L by omega), rd_ h sc hL (show i + 6 < L by omega), rd_ h1 s1 hL (show i + 6 < L by omega), c_sel h, k1, z_rI, ref_sel h1, r1]
  rw [if_pos trivial]
theorem S_out {L : Nat} {xs : Nat → Int32} {M : q_M} (J : JV L xs M) (hL : L ≤ 3584) {i : Nat} (hi : i + 7 ≤ L) (rn : gN M + 200 ≤ 600000) (rs : gS M + 300000 ≤ 7302250) : ∃ M2, q_RL T_L_law (1614, [some (.inr (.inr (some 0))), some (.inr (.inr (some 1))), some (.inr (.inr (some 49))), some (.inl (nI i))], [], M) = q_RL T_L_law (1878, [some (.inr (.inr (some 0))), some (.inr (.inr (some 1))), some (.inr (.inr (some 49))), some (.inl (nI i))], [], M2) ∧ JV L xs M2 ∧ gN M2 ≤ gN M + 43 ∧ gS M2 ≤ gS M + 1200 := by
  have h : SH M := by obtain ⟨_, _, _, _, _, _, _, I⟩ := J; exact I.1
  have sc : SC L xs M := by obtain ⟨_, _, _, _, _, _, _, I⟩ := J; exact I.2.1
  obtain ⟨a, M1, M2, k1, h1, s1, r1, j2, n2, g2⟩ := O_out J (xs (i + 1))
  refine ⟨M2, ?_, j2, n2, g2⟩
  rw [E_L_law_1614]
  simp only [Option.bind_some, rd_ h sc hL (show i + 1 < L by omega), rd_ h1 s1 hL (show i + 1 < L by omega), c_sel h, k1, z_rI, ref_sel h1, r1]
  rw [if_pos trivial]
theorem S_forge {L : Nat} {xs : Nat → Int32} {M : q_M} (J : JV L xs M) (hL : L ≤ 3584) {i : Nat} (hi : i + 7 ≤ L) (rn : gN M + 200 ≤ 600000) (rs : gS M + 300000 ≤ 7302250) : ∃ M2, q_RL T_L_law (1637, [some (.inr (.inr (some 0))), some (.inr (.inr (some 1))), some (.inr (.inr (some 49))), some (.inl (nI i))], [], M) = q_RL T_L_law (1878, [some (.inr (.inr (some 0))), some (.inr (.inr (some 1))), some (.inr (.inr (some 49))), some (.inl (nI i))], [], M2) ∧ JV L xs M2 ∧ gN M2 ≤ gN M + 43 ∧ gS M2 ≤ gS M + 1200 := by
  have h : SH M := by obtain ⟨_, _, _, _, _, _, _, I⟩ := J; exact I.1
  have sc : SC L xs M := by obtain ⟨_, _, _, _, _, _, _, I⟩ := J; exact I.2.1
  obtain ⟨a, M1, M2, k1, h1, s1, r1, j2, n2, g2⟩ := O_forge J (xs (i + 1)) (xs (i + 2))
  refine ⟨M2, ?_, j2, n2, g2⟩
  rw [E_L_law_1637]
  simp only [Option.bind_some, rd_ h sc hL (show i + 1 < L by omega), rd_ h1 s1 hL (show i + 1 < L by omega), rd_ h sc hL (show i + 2 < L by omega), rd_ h1 s1 hL (show i + 2 < L by omega), c_sel h, k1, z_rI, ref_sel h1, r1]
  rw [if_pos trivial]
theorem S_check {L : Nat} {xs : Nat → Int32} {M : q_M} (J : JV L xs M) (hL : L ≤ 3584) {i : Nat} (hi : i + 7 ≤ L) (rn : gN M + 200 ≤ 600000) (rs : gS M + 300000 ≤ 7302250) : ∃ M2, q_RL T_L_law (1670, [some (.inr (.inr (some 0))), some (.inr (.inr (some 1))), some (.inr (.inr (some 49))), some (.inl (nI i))], [], M) = q_RL T_L_law (1878, [some (.inr (.inr (some 0))), some (.inr (.inr (some 1))), some (.inr (.inr (some 49))), some (.inl (nI i))], [], M2) ∧ JV L xs M2 ∧ gN M2 ≤ gN M + 43 ∧ gS M2 ≤ gS M + 1200 := by
  have h : SH M := by obtain ⟨_, _, _, _, _, _, _, I⟩ := J; exact I.1
  have sc : SC L xs M := by obtain ⟨_, _, _, _, _, _, _, I⟩ := J; exact I.2.1
  obtain ⟨a, M1, M2, k1, h1, s1, r1, j2, n2, g2⟩ := O_check J (xs (i + 1)) (xs (i + 2)) (xs (i + 3)) (xs (i + 4)) (xs (i + 5)) (xs (i + 6))
  refine ⟨M2, ?_, j2, n2, g2⟩
  rw [E_L_law_1670]
  simp only [Option.bind_some, rd_ h sc hL (show i + 1 < L by omega), rd_ h1 s1 hL (show i + 1 < L by omega), rd_ h sc hL (show i + 2 < L by omega), rd_ h1 s1 hL (show i + 2 < L by omega), rd_ h sc hL (show i + 3 < L by omega), rd_ h1 s1 hL (show i + 3 < L by omega), rd_ h sc hL (show i + 4 < L by omega), rd_ h1 s1 hL (show i + 4 < L by omega), rd_ h sc hL (show i + 5 < L by omega), rd_ h1 s1 hL (show i + 5 < L by omega), rd_ h sc hL (show i + 6 < L by omega), rd_ h1 s1 hL (show i + 6 < L by omega), c_sel h, k1, z_rI, ref_sel h1, r1]
  rw [if_pos trivial]
theorem S_lay {L : Nat} {xs : Nat → Int32} {M : q_M} (J : JV L xs M) (hL : L ≤ 3584) {i : Nat} (hi : i + 7 ≤ L) (rn : gN M + 200 ≤ 600000) (rs : gS M + 300000 ≤ 7302250) : ∃ M2, q_RL T_L_law (1745, [some (.inr (.inr (some 0))), some (.inr (.inr (some 1))), some (.inr (.inr (some 49))), some (.inl (nI i))], [], M) = q_RL T_L_law (1878, [some (.inr (.inr (some 0))), some (.inr (.inr (some 1))), some (.inr (.inr (some 49))), some (.inl (nI i))], [], M2) ∧ JV L xs M2 ∧ gN M2 ≤ gN M + 43 ∧ gS M2 ≤ gS M + 1200 := by
  have h : SH M := by obtain ⟨_, _, _, _, _, _, _, I⟩ := J; exact I.1
  have sc : SC L xs M := by obtain ⟨_, _, _, _, _, _, _, I⟩ := J; exact I.2.1
  obtain ⟨a, M1, M2, k1, h1, s1, r1, j2, n2, g2⟩ := O_lay J (xs (i + 1)) (xs (i + 2)) (xs (i + 3)) (xs (i + 4))
  refine ⟨M2, ?_, j2, n2, g2⟩
  rw [E_L_law_1745]
  simp only [Option.bind_some, rd_ h sc hL (show i + 1 < L by omega), rd_ h1 s1 hL (show i + 1 < L by omega), rd_ h sc hL (show i + 2 < L by omega), rd_ h1 s1 hL (show i + 2 < L by omega), rd_ h sc hL (show i + 3 < L by omega), rd_ h1 s1 hL (show i + 3 < L by omega), rd_ h sc hL (show i + 4 < L by omega), rd_ h1 s1 hL (show i + 4 < L by omega), c_sel h, k1, z_rI, ref_sel h1, r1]
  rw [if_pos trivial]
theorem S_ask {L : Nat} {xs : Nat → Int32} {M : q_M} (J : JV L xs M) (hL : L ≤ 3584) {i : Nat} (hi : i + 7 ≤ L) (rn : gN M + 200 ≤ 600000) (rs : gS M + 300000 ≤ 7302250) : ∃ M2, q_RL T_L_law (1798, [some (.inr (.inr (some 0))), some (.inr (.inr (some 1))), some (.inr (.inr (some 49))), some (.inl (nI i))], [], M) = q_RL T_L_law (1878, [some (.inr (.inr (some 0))), some (.inr (.inr (some 1))), some (.inr (.inr (some 49))), some (.inl (nI i))], [], M2) ∧ JV L xs M2 ∧ gN M2 ≤ gN M + 43 ∧ gS M2 ≤ gS M + 1200 := by
  have h : SH M := by obtain ⟨_, _, _, _, _, _, _, I⟩ := J; exact I.1
  have sc : SC L xs M := by obtain ⟨_, _, _, _, _, _, _, I⟩ := J; exact I.2.1
  obtain ⟨a, M1, M2, k1, h1, s1, r1, j2, n2, g2⟩ := O_ask J (xs (i + 1)) (xs (i + 2))
  refine ⟨M2, ?_, j2, n2, g2⟩
  rw [E_L_law_1798]
  simp only [Option.bind_some, rd_ h sc hL (show i + 1 < L by omega), rd_ h1 s1 hL (show i + 1 < L by omega), rd_ h sc hL (show i + 2 < L by omega), rd_ h1 s1 hL (show i + 2 < L by omega), c_sel h, k1, z_rL, ref_sel h1, r1]
  simp only [lg_cmp_eq]
  rw [if_pos trivial]
theorem S_image {L : Nat} {xs : Nat → Int32} {M : q_M} (J : JV L xs M) (hL : L ≤ 3584) {i : Nat} (hi : i + 7 ≤ L) (rn : gN M + 200 ≤ 600000) (rs : gS M + 300000 ≤ 7302250) : ∃ M2, q_RL T_L_law (1832, [some (.inr (.inr (some 0))), some (.inr (.inr (some 1))), some (.inr (.inr (some 49))), some (.inl (nI i))], [], M) = q_RL T_L_law (1878, [some (.inr (.inr (some 0))), some (.inr (.inr (some 1))), some (.inr (.inr (some 49))), some (.inl (nI i))], [], M2) ∧ JV L xs M2 ∧ gN M2 ≤ gN M + 43 ∧ gS M2 ≤ gS M + 1200 := by
  have h : SH M := by obtain ⟨_, _, _, _, _, _, _, I⟩ := J; exact I.1
  have sc : SC L xs M := by obtain ⟨_, _, _, _, _, _, _, I⟩ := J; exact I.2.1
  obtain ⟨a, M1, M2, k1, h1, s1, r1, j2, n2, g2⟩ := O_image J rn rs (xs (i + 1))
  refine ⟨M2, ?_, j2, n2, g2⟩
  rw [E_L_law_1832]
  simp only [Option.bind_some, rd_ h sc hL (show i + 1 < L by omega), rd_ h1 s1 hL (show i + 1 < L by omega), c_sel h, k1, z_rI, ref_sel h1, r1]
  rw [if_pos trivial]
theorem S_back {L : Nat} {xs : Nat → Int32} {M : q_M} (J : JV L xs M) (hL : L ≤ 3584) {i : Nat} (hi : i + 7 ≤ L) (rn : gN M + 200 ≤ 600000) (rs : gS M + 300000 ≤ 7302250) : ∃ M2, q_RL T_L_law (1855, [some (.inr (.inr (some 0))), some (.inr (.inr (some 1))), some (.inr (.inr (some 49))), some (.inl (nI i))], [], M) = q_RL T_L_law (1878, [some (.inr (.inr (some 0))), some (.inr (.inr (some 1))), some (.inr (.inr (some 49))), some (.inl (nI i))], [], M2) ∧ JV L xs M2 ∧ gN M2 ≤ gN M + 43 ∧ gS M2 ≤ gS M + 1200 := by
  have h : SH M := by obtain ⟨_, _, _, _, _, _, _, I⟩ := J; exact I.1
  have sc : SC L xs M := by obtain ⟨_, _, _, _, _, _, _, I⟩ := J; exact I.2.1
  obtain ⟨a, M1, M2, k1, h1, s1, r1, j2, n2, g2⟩ := O_back J (xs (i + 1))
  refine ⟨M2, ?_, j2, n2, g2⟩
  rw [E_L_law_1855]
  simp only [Option.bind_some, rd_ h sc hL (show i + 1 < L by omega), rd_ h1 s1 hL (show i + 1 < L by omega), c_sel h, k1, z_rI, ref_sel h1, r1]
  rw [if_pos trivial]
theorem L_step {L : Nat} {xs : Nat → Int32} {M : q_M} (J : JV L xs M) (hL : L ≤ 3584) {i : Nat} (hi : i + 7 ≤ L) (rn : gN M + 200 ≤ 600000) (rs : gS M + 300000 ≤ 7302250) : ∃ M2, q_RL T_L_law (18, [some (.inr (.inr (some 0))), some (.inr (.inr (some 1))), some (.inr (.inr (some 49))), some (.inl (nI i))], [], M) = q_RL T_L_law (1878, [some (.inr (.inr (some 0))), some (.inr (.inr (some 1))), some (.inr (.inr (some 49))), some (.inl (nI i))], [], M2) ∧ JV L xs M2 ∧ gN M2 ≤ gN M + 43 ∧ gS M2 ≤ gS M + 1200 := by
  have h : SH M := by obtain ⟨_, _, _, _, _, _, _, I⟩ := J; exact I.1
  have sc : SC L xs M := by obtain ⟨_, _, _, _, _, _, _, I⟩ := J; exact I.2.1
  have ln : q_lenA M 23 0 = some (nI L) := by
    show (if M.1 0 = 23 then some (Int32.ofNat (M.2.1 0)) else none) = _
    rw [if_pos (show M.1 0 = 23 from h.tg (a := 0) (by omega) rfl), sc.1]; rfl
  have ra : q_aI M 23 0 (nI i) = some (xs i) := by
    rw [z_aI (t := 23) (n := L) (h.tg (a := 0) (by omega) rfl) sc.1 (show i < L by omega) (by omega), sc.2 _ (by omega)]
  rw [E_L_law_18]
  simp only [Option.bind_some, ln, ra, pk_sub (show 7 ≤ L by omega)]
  rw [if_neg (nI_nlt (show i ≤ L - 7 by omega) (by omega))]
  by_cases c0 : (xs i &&& nI 63) = nI 0
  · rw [if_pos c0]; exact S_curve J hL hi rn rs
  rw [if_neg c0]
  by_cases c1 : (xs i &&& nI 63) = nI 1
  · rw [if_pos c1]; exact S_number J hL hi rn rs
  rw [if_neg c1]
  by_cases c2 : (xs i &&& nI 63) = nI 2
  · rw [if_pos c2]; exact S_place J hL hi rn rs
  rw [if_neg c2]
  by_cases c3 : (xs i &&& nI 63) = nI 3
  · rw [if_pos c3]; exact S_size J hL hi rn rs
  rw [if_neg c3]
  by_cases c4 : (xs i &&& nI 63) = nI 4
  · rw [if_pos c4]; exact S_gap J hL hi rn rs
  rw [if_neg c4]
  by_cases c5 : (xs i &&& nI 63) = nI 5
  · rw [if_pos c5]; exact S_shelf J hL hi rn rs
  rw [if_neg c5]
  by_cases c6 : (xs i &&& nI 63) = nI 6
  · rw [if_pos c6]; exact S_put J hL hi rn rs
  rw [if_neg c6]
  by_cases c7 : (xs i &&& nI 63) = nI 7
  · rw [if_pos c7]; exact S_drop J hL hi rn rs
  rw [if_neg c7]
  by_cases c8 : (xs i &&& nI 63) = nI 8
  · rw [if_pos c8]; exact S_move J hL hi rn rs
  rw [if_neg c8]
  by_cases c9 : (xs i &&& nI 63) = nI 9
  · rw [if_pos c9]; exact S_sow J hL hi rn rs
  rw [if_neg c9]
  by_cases c10 : (xs i &&& nI 63) = nI 10
  · rw [if_pos c10]; exact S_find J hL hi rn rs
  rw [if_neg c10]
  by_cases c11 : (xs i &&& nI 63) = nI 11
  · rw [if_pos c11]; exact S_at J hL hi rn rs
  rw [if_neg c11]
  by_cases c12 : (xs i &&& nI 63) = nI 12
  · rw [if_pos c12]; exact S_count J hL hi rn rs
  rw [if_neg c12]
  by_cases c13 : (xs i &&& nI 63) = nI 13
  · rw [if_pos c13]; exact S_page J hL hi rn rs
  rw [if_neg c13]
  by_cases c14 : (xs i &&& nI 63) = nI 14
  · rw [if_pos c14]; exact S_undo J hL hi rn rs
  rw [if_neg c14]
  by_cases c15 : (xs i &&& nI 63) = nI 15
  · rw [if_pos c15]; exact S_low J hL hi rn rs
  rw [if_neg c15]
  by_cases c16 : (xs i &&& nI 63) = nI 16
  · rw [if_pos c16]; exact S_high J hL hi rn rs
  rw [if_neg c16]
  by_cases c17 : (xs i &&& nI 63) = nI 17
  · rw [if_pos c17]; exact S_spans J hL hi rn rs
  rw [if_neg c17]
  by_cases c18 : (xs i &&& nI 63) = nI 18
  · rw [if_pos c18]; exact S_span J hL hi rn rs
  rw [if_neg c18]
  by_cases c19 : (xs i &&& nI 63) = nI 19
  · rw [if_pos c19]; exact S_few J hL hi rn rs
  rw [if_neg c19]
  by_cases c20 : (xs i &&& nI 63) = nI 20
  · rw [if_pos c20]; exact S_beyond J hL hi rn rs
  rw [if_neg c20]
  by_cases c21 : (xs i &&& nI 63) = nI 21
  · rw [if_pos c21]; exact S_jump J hL hi rn rs
  rw [if_neg c21]
  by_cases c22 : (xs i &&& nI 63) = nI 22
  · rw [if_pos c22]; exact S_points J hL hi rn rs
  rw [if_neg c22]
  by_cases c23 : (xs i &&& nI 63) = nI 23
  · rw [if_pos c23]; exact S_nearest J hL hi rn rs
  rw [if_neg c23]
  by_cases c24 : (xs i &&& nI 63) = nI 24
  · rw [if_pos c24]; exact S_within J hL hi rn rs
  rw [if_neg c24]
  by_cases c25 : (xs i &&& nI 63) = nI 25
  · rw [if_pos c25]; exact S_pairs J hL hi rn rs
  rw [if_neg c25]
  by_cases c26 : (xs i &&& nI 63) = nI 26
  · rw [if_pos c26]; exact S_found J hL hi rn rs
  rw [if_neg c26]
  by_cases c27 : (xs i &&& nI 63) = nI 27
  · rw [if_pos c27]; exact S_spent J hL hi rn rs
  rw [if_neg c27]
  by_cases c28 : (xs i &&& nI 63) = nI 28
  · rw [if_pos c28]; exact S_mean J hL hi rn rs
  rw [if_neg c28]
  by_cases c29 : (xs i &&& nI 63) = nI 29
  · rw [if_pos c29]; exact S_compare J hL hi rn rs
  rw [if_neg c29]
  by_cases c30 : (xs i &&& nI 63) = nI 30
  · rw [if_pos c30]; exact S_witness J hL hi rn rs
  rw [if_neg c30]
  by_cases c31 : (xs i &&& nI 63) = nI 31
  · rw [if_pos c31]; exact S_out J hL hi rn rs
  rw [if_neg c31]
  by_cases c32 : (xs i &&& nI 63) = nI 32
  · rw [if_pos c32]; exact S_forge J hL hi rn rs
  rw [if_neg c32]
  by_cases c33 : (xs i &&& nI 63) = nI 33
  · rw [if_pos c33]; exact S_check J hL hi rn rs
  rw [if_neg c33]
  by_cases c34 : (xs i &&& nI 63) = nI 34
  · rw [if_pos c34]; exact S_lay J hL hi rn rs
  rw [if_neg c34]
  by_cases c35 : (xs i &&& nI 63) = nI 35
  · rw [if_pos c35]; exact S_ask J hL hi rn rs
  rw [if_neg c35]
  by_cases c36 : (xs i &&& nI 63) = nI 36
  · rw [if_pos c36]; exact S_image J hL hi rn rs
  rw [if_neg c36]
  by_cases c37 : (xs i &&& nI 63) = nI 37
  · rw [if_pos c37]; exact S_back J hL hi rn rs
  rw [if_neg c37]
  exact ⟨M, rfl, J, by omega, by omega⟩
theorem L_loop {L : Nat} {xs : Nat → Int32} (hL : L ≤ 3584) : ∀ m i M, L < i + 7 * (m + 1) → i ≤ 3584 → JV L xs M → gN M + 43 * m ≤ 90000 → gS M + 1200 * m ≤ 1900000 → ∃ M1, q_RL T_L_law (18, [some (.inr (.inr (some 0))), some (.inr (.inr (some 1))), some (.inr (.inr (some 49))), some (.inl (nI i))], [], M) = some (some (.inl (nI 1)), M1) ∧ gN M1 ≤ gN M + 43 * m ∧ gS M1 ≤ gS M + 1200 * m := by
  have stop : ∀ i M, L < i + 7 → i ≤ 3584 → JV L xs M → q_RL T_L_law (18, [some (.inr (.inr (some 0))), some (.inr (.inr (some 1))), some (.inr (.inr (some 49))), some (.inl (nI i))], [], M) = some (some (.inl (nI 1)), M) := by
    intro i M hi h3 J
    obtain ⟨_, _, _, _, _, _, _, I⟩ := J
    have h := I.1
    have sc := I.2.1
    have ln : q_lenA M 23 0 = some (nI L) := by
      show (if M.1 0 = 23 then some (Int32.ofNat (M.2.1 0)) else none) = _
      rw [if_pos (show M.1 0 = 23 from h.tg (a := 0) (by omega) rfl), sc.1]; rfl
    have lt : nI L - nI 7 < nI i := by
      by_cases c : 7 ≤ L
      · rw [pk_sub c]; exact nI_lt (by omega) (by omega)
      · have a := pk_sneg (show 7 < 2 ^ 30 by omega) (show L < 7 by omega)
        have b := nI_pos' (show i < 2 ^ 31 by omega)
        have a1 := Int32.lt_iff_toInt_lt.mp a
        have b1 := Int32.le_iff_toInt_le.mp b
        exact Int32.lt_iff_toInt_lt.mpr (by omega)
    rw [E_L_law_18]
    simp only [Option.bind_some, ln]
    rw [if_pos lt, if_pos (show nI 1 = 0 ∨ nI 1 = 1 from Or.inr rfl)]
  intro m
  induction m with
  | zero =>
    intro i M hi h3 J _ _
    exact ⟨M, stop i M (by omega) h3 J, by omega, by omega⟩
  | succ m ih =>
    intro i M hi h3 J g1 g2
    by_cases c : L < i + 7
    · exact ⟨M, stop i M c h3 J, by omega, by omega⟩
    · have q0 : i + 7 ≤ L := by omega
      have q1 : gN M + 200 ≤ 600000 := by omega
      have q2 : gS M + 300000 ≤ 7302250 := Nat.le_trans (Nat.add_le_add_right (Nat.le_trans (Nat.le_add_right _ _) g2) 300000) (by decide +kernel)
      obtain ⟨M2, e, J2, n2, s2⟩ := L_step J hL q0 q1 q2
      obtain ⟨M3, e3, n3, s3⟩ := ih (i + 7) M2 (by omega) (by omega) J2 (by omega) (by omega)
      refine ⟨M3, ?_, by omega, by omega⟩
      rw [e, E_L_law_1878]
      have e7 : nI i + 7 = nI (i + 7) := by
        have : (7 : Int32) = nI 7 := by decide +kernel
        rw [this, nI_add]
      rw [e7]
      exact e3
