/-! ===== THE CLASS: a row's boxes ===== -/
theorem K_least {M : q_M} {r ps sz : Nat} {v : Nat → Nat} {o : Nat} (h : RWx M r ps sz v o) (hm : v (o + 2) ≤ 300) {f n a : Nat} (h1 : 1 ≤ n) (hn : f + n ≤ v (o + 2)) (ha : a < 3) (hb : ∀ p, p < v (o + 2) → v (o + 4 + 6 * p + (1 + a)) < 2 ^ 30) : q_CL 25 [.inr (.inr (some r)), .inl (nI f), .inl (nI n), .inl (nI a)] M = some (some (.inl (nI (lwP v o f a n))), M) := by
  rw [C_X3_leastOf]
  obtain ⟨c, c1, c2⟩ := h.pt (show f < v (o + 2) by omega)
  have e1 : lwP v o f a 1 = v (o + 4 + 6 * f + (1 + a)) := by
    show (if v (o + 4 + 6 * (f + 0) + (1 + a)) < v (o + 4 + 6 * f + (1 + a)) then _ else _) = _
    rw [Nat.add_zero]
    split <;> rfl
  simp only [h.f0, Option.bind_some, c1, z_sel c2.1, c2.on ha, z_rI, nI_add]
  have key : ∀ m y, y + m = n → 1 ≤ y → q_RL T_X3_leastOf (17, [some (.inr (.inr (some r))), some (.inl (nI f)), some (.inl (nI n)), some (.inl (nI a)), some (.inl (nI (lwP v o f a y))), some (.inl (nI (f + y)))], [], M) = some (some (.inl (nI (lwP v o f a n))), M) := by
    intro m
    induction m with
    | zero =>
      intro y hy _
      rw [E_X3_leastOf_17, nI_add, if_pos (nI_le (by omega) (by omega)), show y = n by omega]
    | succ m ih =>
      intro y hy y1
      obtain ⟨c, c1, c2⟩ := h.pt (show f + y < v (o + 2) by omega)
      rw [E_X3_leastOf_17, nI_add, if_neg (nI_ge (by omega) (by omega))]
      have q := hb (f + y) (by omega)
      have q2 := (lh_b (v := v) (o := o) (f := f) (a := a) (B := 2 ^ 30) (y - 1) (fun z hz => hb (f + z) (by omega))).1
      have q3 : lwP v o f a y < 2 ^ 30 := by
        have e : y = (y - 1) + 1 := by omega
        rw [e]
        show (if v (o + 4 + 6 * (f + (y - 1)) + (1 + a)) < lwP v o f a (y - 1) then _ else _) < _
        have := hb (f + (y - 1)) (by omega)
        split <;> assumption
      have e : (if nI (v (o + 4 + 6 * (f + y) + (1 + a))) < nI (lwP v o f a y) then nI (v (o + 4 + 6 * (f + y) + (1 + a))) else nI (lwP v o f a y)) = nI (lwP v o f a (y + 1)) := by
        show _ = nI (if v (o + 4 + 6 * (f + y) + (1 + a)) < lwP v o f a y then _ else _)
        by_cases z : v (o + 4 + 6 * (f + y) + (1 + a)) < lwP v o f a y
        · rw [if_pos (nI_lt z (by omega)), if_pos z]
        · rw [if_neg (nI_nlt (by omega) (by omega)), if_neg z]
      simp only [h.f0, Option.bind_some, c1, z_sel c2.1, c2.on ha, z_rI, e, nI_1]
      exact ih (y + 1) (by omega) (by omega)
  have := key (n - 1) 1 (by omega) (by omega)
  rw [e1] at this
  exact this
theorem K_greatest {M : q_M} {r ps sz : Nat} {v : Nat → Nat} {o : Nat} (h : RWx M r ps sz v o) (hm : v (o + 2) ≤ 300) {f n a : Nat} (h1 : 1 ≤ n) (hn : f + n ≤ v (o + 2)) (ha : a < 3) (hb : ∀ p, p < v (o + 2) → v (o + 4 + 6 * p + (1 + a)) < 2 ^ 30) : q_CL 26 [.inr (.inr (some r)), .inl (nI f), .inl (nI n), .inl (nI a)] M = some (some (.inl (nI (hwP v o f a n))), M) := by
  rw [C_X3_greatestOf]
  obtain ⟨c, c1, c2⟩ := h.pt (show f < v (o + 2) by omega)
  have e1 : hwP v o f a 1 = v (o + 4 + 6 * f + (1 + a)) := by
    show (if v (o + 4 + 6 * f + (1 + a)) < v (o + 4 + 6 * (f + 0) + (1 + a)) then _ else _) = _
    rw [Nat.add_zero]
    split <;> rfl
  simp only [h.f0, Option.bind_some, c1, z_sel c2.1, c2.on ha, z_rI, nI_add]
  have key : ∀ m y, y + m = n → 1 ≤ y → q_RL T_X3_greatestOf (17, [some (.inr (.inr (some r))), some (.inl (nI f)), some (.inl (nI n)), some (.inl (nI a)), some (.inl (nI (hwP v o f a y))), some (.inl (nI (f + y)))], [], M) = some (some (.inl (nI (hwP v o f a n))), M) := by
    intro m
    induction m with
    | zero =>
      intro y hy _
      rw [E_X3_greatestOf_17, nI_add, if_pos (nI_le (by omega) (by omega)), show y = n by omega]
    | succ m ih =>
      intro y hy y1
      obtain ⟨c, c1, c2⟩ := h.pt (show f + y < v (o + 2) by omega)
      rw [E_X3_greatestOf_17, nI_add, if_neg (nI_ge (by omega) (by omega))]
      have q := hb (f + y) (by omega)
      have q2 := (lh_b (v := v) (o := o) (f := f) (a := a) (B := 2 ^ 30) (y - 1) (fun z hz => hb (f + z) (by omega))).2
      have q3 : hwP v o f a y < 2 ^ 30 := by
        have e : y = (y - 1) + 1 := by omega
        rw [e]
        show (if hwP v o f a (y - 1) < v (o + 4 + 6 * (f + (y - 1)) + (1 + a)) then _ else _) < _
        have := hb (f + (y - 1)) (by omega)
        split <;> assumption
      have e : (if nI (hwP v o f a y) < nI (v (o + 4 + 6 * (f + y) + (1 + a))) then nI (v (o + 4 + 6 * (f + y) + (1 + a))) else nI (hwP v o f a y)) = nI (hwP v o f a (y + 1)) := by
        show _ = nI (if hwP v o f a y < v (o + 4 + 6 * (f + y) + (1 + a)) then _ else _)
        by_cases z : hwP v o f a y < v (o + 4 + 6 * (f + y) + (1 + a))
        · rw [if_pos (nI_lt z (by omega)), if_pos z]
        · rw [if_neg (nI_nlt (by omega) (by omega)), if_neg z]
      simp only [h.f0, Option.bind_some, c1, z_sel c2.1, c2.on ha, z_rI, e, nI_1]
      exact ih (y + 1) (by omega) (by omega)
  have := key (n - 1) 1 (by omega) (by omega)
  rw [e1] at this
  exact this
/-! ===== THE CLASS: a row in the making ===== -/
theorem K_ahead {M : q_M} {c d : Nat} {P Q : Nat → Nat} (h : PO M c P) (k : PO M d Q) (h5 : P 5 < 2 ^ 62) (k5 : Q 5 < 2 ^ 62) (h0 : P 0 < 2 ^ 31) (k0 : Q 0 < 2 ^ 31) : q_CL 16 [.inr (.inr (some c)), .inr (.inr (some d))] M = some (some (.inl (if P 5 < Q 5 ∨ (P 5 = Q 5 ∧ P 0 < Q 0) then nI 1 else nI 0)), M) := by
  obtain ⟨f0, f1, _⟩ := h.f
  obtain ⟨g0, g1, _⟩ := k.f
  have o0 : (nI 0 = 0 ∨ nI 0 = 1) := Or.inl nI_0
  have o1 : (nI 1 = 0 ∨ nI 1 = 1) := Or.inr rfl
  rw [C_X2_isAheadOf]
  simp only [f1, g1, f0, g0, Option.bind_some, lg_cmp_lt, lg_cmp_eq, pk_lLT (show P 5 < 2 ^ 63 by omega) (show Q 5 < 2 ^ 63 by omega), pk_lEQ (show P 5 < 2 ^ 63 by omega) (show Q 5 < 2 ^ 63 by omega), if_pos o0, if_pos o1]
  by_cases a : P 5 < Q 5
  · rw [if_pos a, if_pos (Or.inl a)]
  rw [if_neg a]
  by_cases b : P 5 = Q 5
  · rw [if_pos b]
    by_cases d : P 0 < Q 0
    · rw [if_neg (nI_ge d k0), if_pos (Or.inr ⟨b, d⟩)]
    · rw [if_pos (nI_le (by omega) h0), if_neg (by omega)]
  · rw [if_neg b, if_neg (by omega)]
/-- the cells of a row in the making -/
def dra (r ps sz a : Nat) : Prop := a = r ∨ a = ps ∨ a = sz
theorem FC.st {P : Nat → Prop} {M M1 : q_M} (f : FC P M M1) (n : ¬ P 23) {a : Nat} (s : ST M a) : ST M1 a := by
  obtain ⟨h1, h2, h3⟩ := s
  refine ⟨h1, by unfold gN at h2 ⊢; rw [f.2.2.1]; exact h2, fun p b hp hb => ?_⟩
  rw [(f.2.2.2.1 23 p n).2.2] at hb
  exact h3 p b hp hb
theorem PO.fc {P : Nat → Prop} {M M1 : q_M} {c : Nat} {Q : Nat → Nat} (h : PO M c Q) (f : FC P M M1) (n : ¬ P 23) (nc : ¬ P c) : PO M1 c Q := by
  obtain ⟨h1, h2, h3, h4, h5, h6, h7, h8⟩ := h
  have a3 := fun k => f.2.2.2.1 c k nc
  exact ⟨by rw [f.1]; exact h1, (a3 0).1.trans h2, (a3 1).2.1.trans h3, (a3 2).1.trans h4, (a3 3).1.trans h5, (a3 4).1.trans h6, (a3 5).1.trans h7, f.st n h8⟩
/-- tags keep the cells of a row apart -/
theorem RWx.nd {M : q_M} {r ps sz : Nat} {v : Nat → Nat} {o : Nat} (h : RWx M r ps sz v o) : r ≠ ps ∧ r ≠ sz ∧ ps ≠ sz := by
  obtain ⟨h1, h2, h3, h4, h5, _⟩ := h
  refine ⟨fun e => ?_, fun e => ?_, fun e => ?_⟩
  · rw [e] at h1; omega
  · rw [e] at h1; omega
  · rw [e] at h4; omega
theorem RWx.n23 {M : q_M} {r ps sz : Nat} {v : Nat → Nat} {o : Nat} (h : RWx M r ps sz v o) (sh : SH M) : ¬ dra r ps sz 23 := by
  obtain ⟨h1, h2, h3, h4, h5, _⟩ := h
  have t : M.1 23 = 21 := sh.1 23 (by omega)
  rintro (e | e | e)
  · rw [← e] at h1; omega
  · rw [← e] at h4; omega
  · rw [← e] at h5; omega
theorem RWx.npt {M : q_M} {r ps sz : Nat} {v : Nat → Nat} {o : Nat} (h : RWx M r ps sz v o) {c : Nat} (t : M.1 c = 2) : ¬ dra r ps sz c := by
  obtain ⟨h1, h2, h3, h4, h5, _⟩ := h
  rintro (e | e | e)
  · rw [← e] at h1; omega
  · rw [← e] at h4; omega
  · rw [← e] at h5; omega
