/-! ===== THE CLASS: few, whole ===== -/
theorem mg_62 {v : Nat → Nat} {b : Nat} (h : ∀ x, x < 2 * v 55 → v (57 + x) < 2 ^ 62) (h1 : 1 ≤ v 55) : ∀ x, x < 2 * mg v b 55 → mg v b (57 + x) < 2 ^ 62 := fun x hx => by
  have m5 : mg v b 55 = v 55 - 1 := va_up_self _ _ _
  rw [m5] at hx
  unfold mg
  rw [va_up_ne _ _ (by omega)]
  unfold mgy
  by_cases c : 57 + 2 * b < 57 + x ∧ 57 + x < 57 + (2 * v 55 - 2)
  · rw [if_pos c, Nat.add_assoc]; exact h (x + 2) (by omega)
  · rw [if_neg c]; exact h x (by omega)
theorem K_melt {n : Nat} (hn : 1 ≤ n ∧ n < 2 ^ 31) : ∀ k v, v 55 ≤ n + k → SO v → (∀ x, x < 2 * v 55 → v (57 + x) < 2 ^ 62) → ∀ {M : q_M}, SH M → TL M 2 v → ∃ M1, ((q_fI M 7 6 2).bind fun x2 => if x2 ≤ nI n then (some (none, M) : Option (Option q_V × q_M)) else (q_fI M 7 6 2).bind fun x3 => if x3 ≤ (nI 1) then some (none, M) else q_RL T_X7_meltTo (20, [some (.inr (.inr (some 6))), some (.inl (nI n)), some (.inl (nI 0)), some (.inl (nI 1))], [], M)) = some (none, M1) ∧ FC t678 M M1 ∧ SH M1 ∧ TL M1 2 (fewV n k v) := by
  intro k
  induction k with
  | zero =>
    intro v hv so h62 M h tl
    have s1 := so.1
    have g1 : gI M 6 2 = nI (v 55) := tl.1
    refine ⟨M, ?_, FC.rf _ M, h, tl⟩
    simp only [t_fI h, g1, Option.bind_some]
    rw [if_pos (nI_le (by omega) hn.2)]
  | succ k ih =>
    intro v hv so h62 M h tl
    have s1 := so.1
    have g1 : gI M 6 2 = nI (v 55) := tl.1
    simp only [t_fI h, g1, Option.bind_some]
    unfold fewV
    by_cases c : v 55 ≤ n
    · rw [if_pos (nI_le c hn.2), if_pos c]
      exact ⟨M, rfl, FC.rf _ M, h, tl⟩
    rw [if_neg (nI_ge (by omega) (by omega)), if_neg c, if_neg (nI_ge (by omega) (by omega))]
    have b1 : bst v 1 = 0 := by show (if btw v 0 ≤ btw v 0 then 0 else 0) = 0; rw [if_pos (Nat.le_refl _)]
    obtain ⟨M1, b, u1, u2, u3, u4⟩ := K_few20 so (n := n) h tl h62 (v 55 - 2) 1 (by omega) (Nat.le_refl _)
    rw [b1] at u1
    have bl := bst_lt v (v 55 - 1) (by omega)
    have m5 : mg v (bst v (v 55 - 1)) 55 = v 55 - 1 := va_up_self _ _ _
    obtain ⟨M2, w1, w2, w3, w4⟩ := ih (mg v (bst v (v 55 - 1))) (by rw [m5]; omega) (SO_mg so (by omega)) (mg_62 h62 (by omega)) u3 u4
    refine ⟨M2, ?_, u2.tr w2, w3, w4⟩
    have g1' : gI M1 6 2 = nI (v 55 - 1) := by have := u4.1; rw [m5] at this; exact this
    rw [u1, E_X7_meltTo_100]
    have e : q_fI M1 7 6 2 = some (nI (v 55 - 1)) := (t_fI u3).trans (congrArg some g1')
    rw [e] at w1 ⊢
    simp only [Option.bind_some] at w1 ⊢
    rw [if_pos (nI_le (Nat.le_refl _) (by omega))]
    exact w1
theorem K_few {v : Nat → Nat} (so : SO v) (h62 : ∀ x, x < 2 * v 55 → v (57 + x) < 2 ^ 62) {M : q_M} (h : SH M) (tl : TL M 2 v) {n : Nat} (hn : 1 ≤ n ∧ n < 2 ^ 31) : ∃ M1, q_CL 106 [.inr (.inr (some 1)), .inl (nI n)] M = some (some (.inl (nI (fewV n 200 v 55))), M1) ∧ FC t678 M M1 ∧ TL M1 2 (fewV n 200 v) := by
  have s1 := so.1
  obtain ⟨M1, u1, u2, u3, u4⟩ := K_melt hn 200 v (by omega) so h62 h tl
  refine ⟨M1, ?_, u2, u4⟩
  have g : gI M1 6 2 = nI (fewV n 200 v 55) := u4.1
  have ml : q_CL 56 [.inr (.inr (some 6)), .inl (nI n)] M = some (none, M1) := by
    rw [C_X7_meltTo]
    exact u1
  rw [C_X11_few, if_pos (nI_le hn.1 hn.2)]
  simp only [c_now h (show (1, 0, 2) ∈ q_crs by decide), t_now h, Option.bind_some, y_sel h (show 6 < 63 by omega) (show q_tgs.getD 6 0 = 7 from rfl), ml, z_rV, c_now u3 (show (1, 0, 2) ∈ q_crs by decide), t_now u3, t_fI u3, g]
theorem K_few_no {M : q_M} {x : Int32} (n : ¬ (∃ n, 1 ≤ n ∧ n < 2 ^ 31 ∧ x = nI n)) : q_CL 106 [.inr (.inr (some 1)), .inl x] M = some (some (.inl (-1)), M) := by
  rw [C_X11_few, if_neg]
  intro z
  have a := Int32.le_iff_toInt_le.mp z
  rw [nI_toInt (by omega)] at a
  obtain ⟨j, hj, e⟩ := nI_of (x := x) (fun y => by
    have := Int32.lt_iff_toInt_lt.mp y
    rw [show (0 : Int32) = nI 0 from nI_0.symm, nI_toInt (by omega)] at this
    omega)
  rw [e, nI_toInt hj] at a
  exact n ⟨j, by omega, hj, e⟩
/-! ===== THE CLASS: a row ===== -/
/-- the object of a point -/
def PO (M : q_M) (c : Nat) (P : Nat → Nat) : Prop := M.1 c = 2 ∧ gI M c 0 = nI (P 0) ∧ gL M c 1 = lN (P 5) ∧ gI M c 2 = nI (P 1) ∧ gI M c 3 = nI (P 2) ∧ gI M c 4 = nI (P 3) ∧ gI M c 5 = nI (P 4) ∧ ST M c
theorem PO.kp {M M1 : q_M} {c : Nat} {P : Nat → Nat} (h : PO M c P) (k : KP M M1) : PO M1 c P := by
  obtain ⟨h1, h2, h3, h4, h5, h6, h7, h8⟩ := h
  obtain ⟨a1, a2, a3⟩ := k.2 c h8
  exact ⟨a1.trans h1, (a3 0).1.trans h2, (a3 1).2.1.trans h3, (a3 2).1.trans h4, (a3 3).1.trans h5, (a3 4).1.trans h6, (a3 5).1.trans h7, k.1 c h8⟩
/-- the object of a row, its points' array and its pages' -/
def RWx (M : q_M) (r ps sz : Nat) (v : Nat → Nat) (o : Nat) : Prop := M.1 r = 3 ∧ gR M r 0 = some ps ∧ gR M r 1 = some sz ∧ M.1 ps = 18 ∧ M.1 sz = 14 ∧ v (o + 2) ≤ M.2.1 ps ∧ M.2.1 ps ≤ 700 ∧ v (o + 3) ≤ M.2.1 sz ∧ M.2.1 sz ≤ 700 ∧ gI M r 2 = nI (v (o + 2)) ∧ gI M r 3 = nI (v (o + 3)) ∧ (∀ p, p < v (o + 2) → ∃ c, gR M ps p = some c ∧ PO M c (fun t => v (o + 4 + 6 * p + t))) ∧ ∀ k, k < v (o + 3) → gI M sz k = nI (v (o + 1804 + k))
def RW (M : q_M) (r : Nat) (v : Nat → Nat) (o : Nat) : Prop := ∃ ps sz, RWx M r ps sz v o ∧ ST M r ∧ ST M ps ∧ ST M sz
theorem RW.kp {M M1 : q_M} {r : Nat} {v : Nat → Nat} {o : Nat} (h : RW M r v o) (k : KP M M1) : RW M1 r v o := by
  obtain ⟨ps, sz, ⟨h1, h2, h3, h4, h5, h6, h7, h8, h9, h10, h11, h12, h13⟩, s1, s2, s3⟩ := h
  obtain ⟨a1, a2, a3⟩ := k.2 r s1
  obtain ⟨b1, b2, b3⟩ := k.2 ps s2
  obtain ⟨c1, c2, c3⟩ := k.2 sz s3
  refine ⟨ps, sz, ⟨a1.trans h1, (a3 0).2.2.trans h2, (a3 1).2.2.trans h3, b1.trans h4, c1.trans h5, by rw [b2]; exact h6, by rw [b2]; exact h7, by rw [c2]; exact h8, by rw [c2]; exact h9, (a3 2).1.trans h10, (a3 3).1.trans h11, fun p hp => ?_, fun x hx => (c3 x).1.trans (h13 x hx)⟩, k.1 r s1, k.1 ps s2, k.1 sz s3⟩
  obtain ⟨c, x1, x2⟩ := h12 p hp
  exact ⟨c, (b3 p).2.2.trans x1, x2.kp k⟩
/-- the same row of another state -/
theorem RWx.cg {M : q_M} {r ps sz : Nat} {v u : Nat → Nat} {o o2 : Nat} (h : RWx M r ps sz v o) (hm : v (o + 2) ≤ 300) (hP : v (o + 3) ≤ 300) (e : ∀ x, x < 2110 → u (o2 + x) = v (o + x)) : RWx M r ps sz u o2 := by
  obtain ⟨h1, h2, h3, h4, h5, h6, h7, h8, h9, h10, h11, h12, h13⟩ := h
  have e2 := e 2 (by omega)
  have e3 := e 3 (by omega)
  refine ⟨h1, h2, h3, h4, h5, by rw [e2]; exact h6, h7, by rw [e3]; exact h8, h9, by rw [e2]; exact h10, by rw [e3]; exact h11, fun p hp => ?_, fun k hk => ?_⟩
  · rw [e2] at hp
    obtain ⟨c, c1, c2⟩ := h12 p hp
    refine ⟨c, c1, ?_⟩
    have ep : ∀ t, t < 6 → u (o2 + 4 + 6 * p + t) = v (o + 4 + 6 * p + t) := fun t ht => by
      have := e (4 + 6 * p + t) (by omega)
      rw [show o2 + 4 + 6 * p + t = o2 + (4 + 6 * p + t) by omega, this, show o + 4 + 6 * p + t = o + (4 + 6 * p + t) by omega]
    obtain ⟨q1, q2, q3, q4, q5, q6, q7, q8⟩ := c2
    exact ⟨q1, q2.trans (congrArg nI (ep 0 (by omega)).symm), q3.trans (congrArg lN (ep 5 (by omega)).symm), q4.trans (congrArg nI (ep 1 (by omega)).symm), q5.trans (congrArg nI (ep 2 (by omega)).symm), q6.trans (congrArg nI (ep 3 (by omega)).symm), q7.trans (congrArg nI (ep 4 (by omega)).symm), q8⟩
  · rw [e3] at hk
    have := e (1804 + k) (by omega)
    rw [show o2 + 1804 + k = o2 + (1804 + k) by omega, this, show o + (1804 + k) = o + 1804 + k by omega]
    exact h13 k hk
theorem RW.cg {M : q_M} {r : Nat} {v u : Nat → Nat} {o o2 : Nat} (h : RW M r v o) (hm : v (o + 2) ≤ 300) (hP : v (o + 3) ≤ 300) (e : ∀ x, x < 2110 → u (o2 + x) = v (o + x)) : RW M r u o2 := by
  obtain ⟨ps, sz, a, b⟩ := h
  exact ⟨ps, sz, a.cg hm hP e, b⟩
/-! reading a row -/
theorem RWx.t {M : q_M} {r ps sz : Nat} {v : Nat → Nat} {o : Nat} (h : RWx M r ps sz v o) : q_isT 3 (M.1 r) = true := by rw [h.1]; rfl
theorem RWx.sel {M : q_M} {r ps sz : Nat} {v : Nat → Nat} {o : Nat} (h : RWx M r ps sz v o) {y : Nat} : q_sel M [(3, y)] r = some y := z_sel h.1
theorem RWx.f0 {M : q_M} {r ps sz : Nat} {v : Nat → Nat} {o : Nat} (h : RWx M r ps sz v o) : q_fR M 3 r 0 = some (some ps) := (z_fR h.t).trans (congrArg some h.2.1)
theorem RWx.f1 {M : q_M} {r ps sz : Nat} {v : Nat → Nat} {o : Nat} (h : RWx M r ps sz v o) : q_fR M 3 r 1 = some (some sz) := (z_fR h.t).trans (congrArg some h.2.2.1)
theorem RWx.f2 {M : q_M} {r ps sz : Nat} {v : Nat → Nat} {o : Nat} (h : RWx M r ps sz v o) : q_fI M 3 r 2 = some (nI (v (o + 2))) := (z_fI h.t).trans (congrArg some h.2.2.2.2.2.2.2.2.2.1)
theorem RWx.f3 {M : q_M} {r ps sz : Nat} {v : Nat → Nat} {o : Nat} (h : RWx M r ps sz v o) : q_fI M 3 r 3 = some (nI (v (o + 3))) := (z_fI h.t).trans (congrArg some h.2.2.2.2.2.2.2.2.2.2.1)
theorem RWx.pt {M : q_M} {r ps sz : Nat} {v : Nat → Nat} {o : Nat} (h : RWx M r ps sz v o) {p : Nat} (hp : p < v (o + 2)) : ∃ c, q_aR M ps (nI p) = some (some c) ∧ PO M c (fun t => v (o + 4 + 6 * p + t)) := by
  obtain ⟨h1, h2, h3, h4, h5, h6, h7, h8, h9, h10, h11, h12, h13⟩ := h
  obtain ⟨c, c1, c2⟩ := h12 p hp
  exact ⟨c, (z_aR (by rw [h4]; omega) rfl (by omega) (by omega)).trans (congrArg some c1), c2⟩
theorem RWx.sz {M : q_M} {r ps sz : Nat} {v : Nat → Nat} {o : Nat} (h : RWx M r ps sz v o) {k : Nat} (hk : k < v (o + 3)) : q_aI M 14 sz (nI k) = some (nI (v (o + 1804 + k))) := by
  obtain ⟨h1, h2, h3, h4, h5, h6, h7, h8, h9, h10, h11, h12, h13⟩ := h
  exact (z_aI h5 rfl (by omega) (by omega)).trans (congrArg some (h13 k hk))
theorem PO.f {M : q_M} {c : Nat} {P : Nat → Nat} (h : PO M c P) : q_fI M 2 c 0 = some (nI (P 0)) ∧ q_fL M 2 c 1 = some (lN (P 5)) ∧ q_fI M 2 c 2 = some (nI (P 1)) ∧ q_fI M 2 c 3 = some (nI (P 2)) ∧ q_fI M 2 c 4 = some (nI (P 3)) ∧ q_fI M 2 c 5 = some (nI (P 4)) := by
  obtain ⟨h1, h2, h3, h4, h5, h6, h7, _⟩ := h
  have t : q_isT 2 (M.1 c) = true := by rw [h1]; rfl
  exact ⟨(z_fI t).trans (congrArg some h2), (z_fL t).trans (congrArg some h3), (z_fI t).trans (congrArg some h4), (z_fI t).trans (congrArg some h5), (z_fI t).trans (congrArg some h6), (z_fI t).trans (congrArg some h7)⟩
theorem PO.on {M : q_M} {c : Nat} {P : Nat → Nat} (h : PO M c P) {a : Nat} (ha : a < 3) : q_CL 15 [.inr (.inr (some c)), .inl (nI a)] M = some (some (.inl (nI (P (1 + a)))), M) := by
  obtain ⟨_, _, f2, f3, f4, _⟩ := h.f
  rw [C_X2_on]
  rcases (show a = 0 ∨ a = 1 ∨ a = 2 by omega) with rfl | rfl | rfl
  · rw [if_pos nI_0]; simp only [f2, Option.bind_some]
  · rw [if_neg (show ¬ nI 1 = 0 by decide +kernel), if_pos rfl]; simp only [f3, Option.bind_some]
  · rw [if_neg (show ¬ nI 2 = 0 by decide +kernel), if_neg (show ¬ nI 2 = nI 1 by decide +kernel)]; simp only [f4, Option.bind_some]
theorem K_idx {M : q_M} {r ps sz : Nat} {v : Nat → Nat} {o : Nat} (h : RWx M r ps sz v o) (hm : v (o + 2) ≤ 300) (x : Int32) : ((∀ p, p < v (o + 2) → x ≠ nI (v (o + 4 + 6 * p))) → q_CL 21 [.inr (.inr (some r)), .inl x] M = some (some (.inl (-1)), M)) ∧ ∀ p, nmAt v o x p → q_CL 21 [.inr (.inr (some r)), .inl x] M = some (some (.inl (nI p)), M) := by
  rw [C_X3_indexOf]
  have stp : ∀ y, y < v (o + 2) → x ≠ nI (v (o + 4 + 6 * y)) → q_RL T_X3_indexOf (2, [some (.inr (.inr (some r))), some (.inl x), some (.inl (nI y))], [], M) = q_RL T_X3_indexOf (2, [some (.inr (.inr (some r))), some (.inl x), some (.inl (nI (y + 1)))], [], M) := fun y hy ne => by
    obtain ⟨c, c1, c2⟩ := h.pt hy
    rw [E_X3_indexOf_2]
    simp only [h.f2, Option.bind_some]
    rw [if_neg (nI_ge hy (by omega))]
    simp only [h.f0, Option.bind_some, c1, c2.f.1, nI_1]
    rw [if_neg (fun z => ne z.symm)]
  have go : ∀ m y, y + m ≤ v (o + 2) → (∀ p, p < y + m → x ≠ nI (v (o + 4 + 6 * p))) → q_RL T_X3_indexOf (2, [some (.inr (.inr (some r))), some (.inl x), some (.inl (nI y))], [], M) = q_RL T_X3_indexOf (2, [some (.inr (.inr (some r))), some (.inl x), some (.inl (nI (y + m)))], [], M) := by
    intro m
    induction m with
    | zero => intro y _ _; rfl
    | succ m ih =>
      intro y hy ne
      rw [stp y (by omega) (ne y (by omega)), ih (y + 1) (by omega) (fun p hp => ne p (by omega)), show y + 1 + m = y + (m + 1) by omega]
  refine ⟨fun ne => ?_, fun p np => ?_⟩
  · rw [go (v (o + 2)) 0 (by omega) (fun p hp => ne p (by omega)), E_X3_indexOf_2]
    simp only [h.f2, Option.bind_some]
    rw [if_pos (nI_le (by omega) (by omega))]
  · obtain ⟨n1, n2, n3⟩ := np
    obtain ⟨c, c1, c2⟩ := h.pt n1
    rw [go p 0 (by omega) (fun q hq => n3 q (by omega)), E_X3_indexOf_2, Nat.zero_add]
    simp only [h.f2, Option.bind_some]
    rw [if_neg (nI_ge n1 (by omega))]
    simp only [h.f0, Option.bind_some, c1, c2.f.1]
    rw [if_pos (by rw [n2]; rfl)]
theorem K_pgOf {M : q_M} {r ps sz : Nat} {v : Nat → Nat} {o : Nat} (h : RWx M r ps sz v o) (hP : v (o + 3) ≤ 300) {p g : Nat} (pa : pgAt v o p g) (hb : psm v o (v (o + 3)) < 2 ^ 30) : q_CL 22 [.inr (.inr (some r)), .inl (nI p)] M = some (some (.inl (nI g)), M) := by
  obtain ⟨g1, g2, g3⟩ := pa
  rw [C_X3_pageOf]
  have key : ∀ m k, k + m = g → q_RL T_X3_pageOf (4, [some (.inr (.inr (some r))), some (.inl (nI p)), some (.inl (nI (psm v o k))), some (.inl (nI k))], [], M) = some (some (.inl (nI g)), M) := by
    intro m
    induction m with
    | zero =>
      intro k hk
      rw [Nat.add_zero] at hk
      subst hk
      have e : psm v o k + v (o + 1804 + k) = psm v o (k + 1) := rfl
      have := psm_mo (v := v) (o := o) (show k + 1 ≤ v (o + 3) by omega)
      rw [E_X3_pageOf_4]
      simp only [h.f3, Option.bind_some]
      rw [if_neg (nI_ge g1 (by omega))]
      simp only [h.f1, Option.bind_some, h.sz g1, nI_add, e]
      rw [if_neg (nI_ge g3 (by omega))]
    | succ m ih =>
      intro k hk
      have e : psm v o k + v (o + 1804 + k) = psm v o (k + 1) := rfl
      have m1 := psm_mo (v := v) (o := o) (show k + 1 ≤ g by omega)
      have m2 := psm_mo (v := v) (o := o) (show g + 1 ≤ v (o + 3) by omega)
      rw [E_X3_pageOf_4]
      simp only [h.f3, Option.bind_some]
      rw [if_neg (nI_ge (by omega) (by omega))]
      simp only [h.f1, Option.bind_some, h.sz (show k < v (o + 3) by omega), nI_add, e, nI_1]
      rw [if_pos (nI_le (by omega) (by omega))]
      exact ih (k + 1) (by omega)
  exact key g 0 (by omega)
theorem K_start {M : q_M} {r ps sz : Nat} {v : Nat → Nat} {o : Nat} (h : RWx M r ps sz v o) (hP : v (o + 3) ≤ 300) {k : Nat} (hk : k ≤ v (o + 3)) : q_CL 23 [.inr (.inr (some r)), .inl (nI k)] M = some (some (.inl (nI (psm v o k))), M) := by
  rw [C_X3_startOf]
  have key : ∀ m y, y + m = k → q_RL T_X3_startOf (4, [some (.inr (.inr (some r))), some (.inl (nI k)), some (.inl (nI (psm v o y))), some (.inl (nI y))], [], M) = some (some (.inl (nI (psm v o k))), M) := by
    intro m
    induction m with
    | zero =>
      intro y hy
      rw [E_X3_startOf_4, if_pos (nI_le (by omega) (by omega)), show y = k by omega]
    | succ m ih =>
      intro y hy
      rw [E_X3_startOf_4, if_neg (nI_ge (by omega) (by omega))]
      simp only [h.f1, Option.bind_some, h.sz (show y < v (o + 3) by omega), nI_add, nI_1]
      exact ih (y + 1) (by omega)
  exact key k 0 (by omega)
theorem K_wts {M : q_M} {r ps sz : Nat} {v : Nat → Nat} {o : Nat} (h : RWx M r ps sz v o) (hm : v (o + 2) ≤ 300) {f n : Nat} (hn : f + n ≤ v (o + 2)) : q_CL 24 [.inr (.inr (some r)), .inl (nI f), .inl (nI n)] M = some (some (.inl (nI (wsm v o f n))), M) := by
  rw [C_X3_weightsOf]
  have key : ∀ m y, y + m = n → q_RL T_X3_weightsOf (5, [some (.inr (.inr (some r))), some (.inl (nI f)), some (.inl (nI n)), some (.inl (nI (wsm v o f y))), some (.inl (nI (f + y)))], [], M) = some (some (.inl (nI (wsm v o f n))), M) := by
    intro m
    induction m with
    | zero =>
      intro y hy
      rw [E_X3_weightsOf_5, nI_add, if_pos (nI_le (by omega) (by omega)), show y = n by omega]
    | succ m ih =>
      intro y hy
      obtain ⟨c, c1, c2⟩ := h.pt (show f + y < v (o + 2) by omega)
      rw [E_X3_weightsOf_5, nI_add, if_neg (nI_ge (by omega) (by omega))]
      simp only [h.f0, Option.bind_some, c1, c2.f.2.2.2.2.2, nI_add, nI_1]
      exact ih (y + 1) (by omega)
  exact key n 0 (by omega)
