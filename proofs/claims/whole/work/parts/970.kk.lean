/-! ===== THE CLASS: span, few, beyond ===== -/
theorem t_fI {M : q_M} (h : SH M) {k : Nat} : q_fI M 7 6 k = some (gI M 6 k) := y_fI h (by omega) rfl
theorem t_fL {M : q_M} (h : SH M) {k : Nat} : q_fL M 7 6 k = some (gL M 6 k) := y_fL h (by omega) rfl
theorem t_sI {M : q_M} (h : SH M) {k : Nat} {x : Int32} : q_sI M 7 6 k x = some (stI M 6 k x) := y_sI h (by omega) rfl
theorem t_0 {M : q_M} (h : SH M) : q_fR M 7 6 0 = some (some 7) := y_fR h (by omega) rfl (by decide)
theorem t_1 {M : q_M} (h : SH M) : q_fR M 7 6 1 = some (some 8) := y_fR h (by omega) rfl (by decide)
theorem t_a {M : q_M} (h : SH M) {c k : Nat} (hc : c = 7 ∨ c = 8) (hk : k < 200) : q_aL M c (nI k) = some (gL M c k) := by
  rcases hc with rfl | rfl <;> exact y_aL h (by omega) (by omega) rfl hk (by decide)
theorem t_b {M : q_M} (h : SH M) {c k : Nat} {x : Int64} (hc : c = 7 ∨ c = 8) (hk : k < 200) : q_bL M c (nI k) x = some (stL M c k x) := by
  rcases hc with rfl | rfl <;> exact y_bL h (by omega) (by omega) rfl hk (by decide)
theorem t_now {M : q_M} (h : SH M) : q_fR M 8 2 4 = some (some 6) := s_now h (by decide)
theorem K_span_no {v : Nat → Nat} (h5 : v 55 ≤ 200) {M : q_M} (h : SH M) (tl : TL M 2 v) {x y : Int32} (n : ¬ (∃ j b, j < v 55 ∧ x = nI j ∧ b < 2 ∧ y = nI b)) : q_CL 105 [.inr (.inr (some 1)), .inl x, .inl y] M = some (some (.inr (.inl (-1))), M) := by
  have g1 : gI M 6 2 = nI (v 55) := tl.1
  rw [C_X11_span]
  simp only [c_now h (show (1, 0, 2) ∈ q_crs by decide), t_now h, t_fI h, g1, Option.bind_some]
  rcases pk_ix x (show v 55 < 2 ^ 31 by omega) with q | q | ⟨j, hj, rfl⟩
  · rw [if_pos q]
  · rw [if_pos q]
    by_cases z : x < 0
    · rw [if_pos z]
    · rw [if_neg z]
  rw [if_neg (nI_pos (by omega)), if_neg (nI_ge hj (by omega))]
  rcases ix3 y (show 1 + 1 < 2 ^ 31 by omega) with z | ⟨z1, z2, z3⟩ | ⟨b, hb, rfl⟩
  · rw [if_pos z]
  · rw [if_neg z1, if_neg z3]
  · exact absurd ⟨j, b, hj, rfl, by omega, rfl⟩ n
theorem K_span {v : Nat → Nat} (h5 : v 55 ≤ 200) {M : q_M} (h : SH M) (tl : TL M 2 v) {j b : Nat} (hj : j < v 55) (hb : b < 2) : q_CL 105 [.inr (.inr (some 1)), .inl (nI j), .inl (nI b)] M = some (some (.inr (.inl (lN (v (57 + 2 * j + b))))), M) := by
  have g1 : gI M 6 2 = nI (v 55) := tl.1
  have g3 := tl.2.2 j hj
  have g3a : gL M 7 j = lN (v (57 + 2 * j)) := g3.1
  have g3b : gL M 8 j = lN (v (57 + 2 * j + 1)) := g3.2
  rw [C_X11_span]
  simp only [c_now h (show (1, 0, 2) ∈ q_crs by decide), t_now h, t_fI h, g1, Option.bind_some]
  rw [if_neg (nI_pos (by omega)), if_neg (nI_ge hj (by omega)), if_neg (nI_pos (by omega)), if_pos (nI_le (by omega) (by omega))]
  simp only [t_0 h, t_1 h, Option.bind_some, t_a h (Or.inl rfl) (show j < 200 by omega), t_a h (Or.inr rfl) (show j < 200 by omega), g3a, g3b]
  rcases (show b = 0 ∨ b = 1 by omega) with rfl | rfl
  · rw [if_pos nI_0]; rfl
  · rw [if_neg (show ¬ nI 1 = 0 by decide +kernel)]
theorem K_beyond {v : Nat → Nat} (so : SO v) (z0 : v 55 = 0 → v 56 = 0) {M : q_M} (h : SH M) (tl : TL M 2 v) : q_CL 107 [.inr (.inr (some 1))] M = some (some (.inr (.inl (lN (sumN v (v 55)) - lN (if v 55 = 0 then 0 else v 56)))), M) := by
  have g1 : gI M 6 2 = nI (v 55) := tl.1
  have g2 : gL M 6 3 = lN (v 56) := tl.2.1
  have num : q_CL 55 [.inr (.inr (some 6))] M = some (some (.inr (.inl (lN (sumN v (v 55))))), M) := by
    rw [C_X7_numbers]
    have key : ∀ m k, k + m = v 55 → ∀ d2, q_RL T_X7_numbers (4, [some (.inr (.inr (some 6))), some (.inr (.inl (lN (sumN v k)))), d2, some (.inl (nI k))], [], M) = some (some (.inr (.inl (lN (sumN v (v 55))))), M) := by
      intro m
      induction m with
      | zero =>
        intro k hk d2
        rw [E_X7_numbers_4]
        simp only [t_fI h, g1, Option.bind_some]
        rw [if_pos (nI_le (by omega) (by have := so.1; omega)), show k = v 55 by omega]
      | succ m ih =>
        intro k hk d2
        have s1 := so.1
        have s2 := so.2 (2 * k) (by omega)
        have g3a : gL M 7 k = lN (v (57 + 2 * k)) := (tl.2.2 k (by omega)).1
        have g3b : gL M 8 k = lN (v (57 + 2 * k + 1)) := (tl.2.2 k (by omega)).2
        rw [E_X7_numbers_4]
        simp only [t_fI h, g1, Option.bind_some]
        rw [if_neg (nI_ge (by omega) (by omega))]
        simp only [t_0 h, t_1 h, Option.bind_some, t_a h (Or.inl rfl) (show k < 200 by omega), t_a h (Or.inr rfl) (show k < 200 by omega), g3a, g3b, lN_sub s2, lN_add, nI_1]
        exact ih (k + 1) (by omega) none
    exact key (v 55) 0 (by omega) none
  rw [C_X11_beyond]
  simp only [c_now h (show (1, 0, 2) ∈ q_crs by decide), t_now h, Option.bind_some, y_sel h (show 6 < 63 by omega) (show q_tgs.getD 6 0 = 7 from rfl), num, z_rL, t_fL h, g2]
  by_cases e : v 55 = 0
  · rw [if_pos e, z0 e]
  · rw [if_neg e]
/-! few -/
def t678 (a : Nat) : Prop := 6 ≤ a ∧ a ≤ 8
/-- the entries of N spans -/
def TA (M : q_M) (u : Nat → Nat) (N : Nat) : Prop := ∀ k, k < N → gL M 7 k = lN (u (57 + 2 * k)) ∧ gL M 8 k = lN (u (57 + 2 * k + 1))
theorem K_me100 {v : Nat → Nat} (so : SO v) {b n : Nat} (hb : b + 1 < v 55) {pl : Nat} : ∀ m y, y + m + 1 = v 55 → b < y → ∀ {M : q_M}, SH M → gI M 6 2 = nI (v 55 - 1) → gL M 6 3 = lN pl → TA M (mgy v b (2 * y)) (v 55) → ∃ M1 y', q_RL T_X7_meltTo (100, [some (.inr (.inr (some 6))), some (.inl (nI n)), some (.inl (nI b)), some (.inl (nI y))], [], M) = q_RL T_X7_meltTo (100, [some (.inr (.inr (some 6))), some (.inl (nI n)), some (.inl (nI b)), some (.inl (nI y'))], [], M1) ∧ y' = v 55 - 1 ∧ FC t678 M M1 ∧ SH M1 ∧ gI M1 6 2 = nI (v 55 - 1) ∧ gL M1 6 3 = lN pl ∧ TA M1 (mgy v b (2 * v 55 - 2)) (v 55) := by
  have s1 := so.1
  intro m
  induction m with
  | zero =>
    intro y hy hby M h e2 e3 ta
    refine ⟨M, y, rfl, by omega, FC.rf _ M, h, e2, e3, ?_⟩
    rw [show 2 * v 55 - 2 = 2 * y by omega]; exact ta
  | succ m ih =>
    intro y hy hby M h e2 e3 ta
    obtain ⟨p1, p2⟩ := ta (y + 1) (by omega)
    have q1 : mgy v b (2 * y) (57 + 2 * (y + 1)) = v (57 + 2 * (y + 1)) := by unfold mgy; rw [if_neg (by omega)]
    have q2 : mgy v b (2 * y) (57 + 2 * (y + 1) + 1) = v (57 + 2 * (y + 1) + 1) := by unfold mgy; rw [if_neg (by omega)]
    rw [q1] at p1
    rw [q2] at p2
    have hA : SH (stL M 7 y (lN (v (57 + 2 * (y + 1))))) := h
    have p2A : gL (stL M 7 y (lN (v (57 + 2 * (y + 1))))) 8 (y + 1) = lN (v (57 + 2 * (y + 1) + 1)) := (gL_oth (by omega)).trans p2
    obtain ⟨M1, y', u1, u2, u3, u4, u5, u6, u7⟩ := ih (y + 1) (by omega) (by omega) (M := stL (stL M 7 y (lN (v (57 + 2 * (y + 1))))) 8 y (lN (v (57 + 2 * (y + 1) + 1)))) h e2 (by rw [gL_oth (by omega), gL_oth (by omega)]; exact e3) (fun k hk => by
      by_cases q : k = y
      · subst q
        refine ⟨?_, ?_⟩
        · rw [gL_oth (by omega), gL_self]; unfold mgy; rw [if_pos (by omega), show 57 + 2 * k + 2 = 57 + 2 * (k + 1) by omega]
        · rw [gL_self]; unfold mgy; rw [if_pos (by omega), show 57 + 2 * k + 1 + 2 = 57 + 2 * (k + 1) + 1 by omega]
      · obtain ⟨w1, w2⟩ := ta k hk
        have e1 : ∀ x, x = 57 + 2 * k ∨ x = 57 + 2 * k + 1 → mgy v b (2 * (y + 1)) x = mgy v b (2 * y) x := fun x hx => by
          unfold mgy
          by_cases c : 57 + 2 * b < x ∧ x < 57 + 2 * y
          · rw [if_pos c, if_pos (by omega)]
          · rw [if_neg c, if_neg (by omega)]
        refine ⟨?_, ?_⟩
        · rw [gL_oth (by omega), gL_oth (by omega), e1 _ (Or.inl rfl)]; exact w1
        · rw [gL_oth (by omega), gL_oth (by omega), e1 _ (Or.inr rfl)]; exact w2)
    refine ⟨M1, y', ?_, u2, (((FC.rf t678 M).sL (a := 7) ⟨by omega, by omega⟩).sL (a := 8) ⟨by omega, by omega⟩).tr u3, u4, u5, u6, u7⟩
    rw [← u1, E_X7_meltTo_100]
    simp only [t_fI h, e2, Option.bind_some]
    rw [if_neg (nI_ge (by omega) (by omega))]
    simp only [t_0 h, Option.bind_some, nI_add, t_a h (Or.inl rfl) (show y + 1 < 200 by omega), p1, t_b h (Or.inl rfl) (show y < 200 by omega), t_1 hA, t_a hA (Or.inr rfl) (show y + 1 < 200 by omega), p2A, t_b hA (Or.inr rfl) (show y < 200 by omega), nI_1]
theorem K_few20 {v : Nat → Nat} (so : SO v) {n : Nat} {M : q_M} (h : SH M) (tl : TL M 2 v) (h62 : ∀ x, x < 2 * v 55 → v (57 + x) < 2 ^ 62) : ∀ m j, j + m + 1 = v 55 → 1 ≤ j → ∃ M1 b, q_RL T_X7_meltTo (20, [some (.inr (.inr (some 6))), some (.inl (nI n)), some (.inl (nI (bst v j))), some (.inl (nI j))], [], M) = q_RL T_X7_meltTo (100, [some (.inr (.inr (some 6))), some (.inl (nI n)), some (.inl (nI b)), some (.inl (nI (v 55 - 1)))], [], M1) ∧ FC t678 M M1 ∧ SH M1 ∧ TL M1 2 (mg v (bst v (v 55 - 1))) := by
  have s1 := so.1
  have g1 : gI M 6 2 = nI (v 55) := tl.1
  have g2 : gL M 6 3 = lN (v 56) := tl.2.1
  have ta : TA M v (v 55) := tl.2.2
  intro m
  induction m with
  | zero =>
    intro j hj hj1
    have ej : j = v 55 - 1 := by omega
    have bl := bst_lt v j (by omega)
    obtain ⟨b, eb⟩ : ∃ b, b = bst v j := ⟨_, rfl⟩
    rw [← eb] at bl ⊢
    have p2 : gL M 8 (b + 1) = lN (v (57 + 2 * (b + 1) + 1)) := (ta (b + 1) (by omega)).2
    have hA : SH (stL M 8 b (lN (v (57 + 2 * (b + 1) + 1)))) := h
    have gA : gI (stL M 8 b (lN (v (57 + 2 * (b + 1) + 1)))) 6 2 = nI (v 55) := g1
    have hB : SH (stI (stL M 8 b (lN (v (57 + 2 * (b + 1) + 1)))) 6 2 (nI (v 55 - 1))) := h
    obtain ⟨M1, y', u1, u2, u3, u4, u5, u6, u7⟩ := K_me100 so (b := b) (n := n) (by omega) (pl := v 56) (v 55 - 1 - (b + 1)) (b + 1) (by omega) (by omega) hB gI_self (by rw [gL_stI, gL_oth (by omega)]; exact g2) (fun k hk => by
      obtain ⟨w1, w2⟩ := ta k hk
      rw [gL_stI, gL_stI]
      refine ⟨?_, ?_⟩
      · rw [gL_oth (by omega), w1]; unfold mgy; rw [if_neg (by omega)]
      · by_cases q : k = b
        · subst q
          rw [gL_self]; unfold mgy; rw [if_pos (by omega), show 57 + 2 * k + 1 + 2 = 57 + 2 * (k + 1) + 1 by omega]
        · rw [gL_oth (by omega), w2]; unfold mgy; rw [if_neg (by omega)])
    refine ⟨M1, b, ?_, (((FC.rf t678 M).sL (a := 8) ⟨by omega, by omega⟩).sI (a := 6) ⟨by omega, by omega⟩).tr u3, u4, ?_⟩
    · rw [E_X7_meltTo_20]
      simp only [t_fI h, g1, Option.bind_some, nI_add]
      rw [if_pos (nI_le (by omega) (by omega))]
      simp only [t_1 h, Option.bind_some, t_a h (Or.inr rfl) (show b + 1 < 200 by omega), p2, t_b h (Or.inr rfl) (show b < 200 by omega), t_fI hA, gA, pk_sub (show 1 ≤ v 55 by omega), t_sI hA]
      rw [u1, u2]
    · have eb' : bst v (v 55 - 1) = b := by rw [eb, ej]
      rw [eb']
      have m5 : mg v b 55 = v 55 - 1 := va_up_self _ _ _
      have m6 : mg v b 56 = v 56 := by unfold mg; rw [va_up_ne _ _ (by omega)]; unfold mgy; rw [if_neg (by omega)]
      unfold TL SpV
      rw [m5, m6]
      refine ⟨u5, u6, fun k hk => ?_⟩
      have := u7 k (by omega)
      show gL M1 7 k = lN (mg v b (57 + 2 * k)) ∧ gL M1 8 k = lN (mg v b (57 + 2 * k + 1))
      unfold mg
      rw [va_up_ne _ _ (by omega), va_up_ne _ _ (by omega)]
      exact this
  | succ m ih =>
    intro j hj hj1
    have bl := bst_lt v j (by omega)
    obtain ⟨M1, b, u1, u2, u3, u4⟩ := ih (j + 1) (by omega) (by omega)
    refine ⟨M1, b, ?_, u2, u3, u4⟩
    rw [← u1]
    have w1 : gL M 7 (j + 1) = lN (v (57 + 2 * (j + 1))) := (ta (j + 1) (by omega)).1
    have w2 : gL M 8 j = lN (v (57 + 2 * j + 1)) := (ta j (by omega)).2
    have w3 : gL M 7 (bst v j + 1) = lN (v (57 + 2 * (bst v j + 1))) := (ta (bst v j + 1) (by omega)).1
    have w4 : gL M 8 (bst v j) = lN (v (57 + 2 * bst v j + 1)) := (ta (bst v j) (by omega)).2
    have o1 := so.2 (2 * j + 1) (by omega)
    have o2 := so.2 (2 * bst v j + 1) (by omega)
    have k1 := h62 (2 * j + 2) (by omega)
    have k2 := h62 (2 * bst v j + 2) (by omega)
    have e1 : v (57 + 2 * (j + 1)) - v (57 + 2 * j + 1) = btw v j := by unfold btw; rw [show 57 + 2 * (j + 1) = 57 + 2 * j + 2 by omega]
    have e2 : v (57 + 2 * (bst v j + 1)) - v (57 + 2 * bst v j + 1) = btw v (bst v j) := by unfold btw; rw [show 57 + 2 * (bst v j + 1) = 57 + 2 * bst v j + 2 by omega]
    rw [E_X7_meltTo_20]
    simp only [t_fI h, g1, Option.bind_some, nI_add]
    rw [if_neg (nI_ge (by omega) (by omega))]
    simp only [t_0 h, t_1 h, Option.bind_some, t_a h (Or.inl rfl) (show j + 1 < 200 by omega), t_a h (Or.inr rfl) (show j < 200 by omega), t_a h (Or.inl rfl) (show bst v j + 1 < 200 by omega), t_a h (Or.inr rfl) (show bst v j < 200 by omega), w1, w2, w3, w4, lN_sub (show v (57 + 2 * j + 1) ≤ v (57 + 2 * (j + 1)) from o1), lN_sub (show v (57 + 2 * bst v j + 1) ≤ v (57 + 2 * (bst v j + 1)) from o2), e1, e2, lg_cmp_ge, pk_lLE (show btw v (bst v j) < 2 ^ 63 by rw [← e2]; exact Nat.lt_of_le_of_lt (Nat.sub_le _ _) (by show v (57 + 2 * bst v j + 2) < _; rw [show 57 + 2 * bst v j + 2 = 57 + (2 * bst v j + 2) by omega]; omega)) (show btw v j < 2 ^ 63 by rw [← e1]; exact Nat.lt_of_le_of_lt (Nat.sub_le _ _) (by show v (57 + 2 * j + 2) < _; rw [show 57 + 2 * j + 2 = 57 + (2 * j + 2) by omega]; omega)), nI_1]
    have eb : bst v (j + 1) = if btw v (bst v j) ≤ btw v j then bst v j else j := rfl
    by_cases c : btw v (bst v j) ≤ btw v j
    · rw [if_pos c] at eb
      rw [if_pos c, eb]
    · rw [if_neg c] at eb
      rw [if_neg c, eb]
