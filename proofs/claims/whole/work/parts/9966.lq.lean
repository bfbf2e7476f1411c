/-! ===== THE CLASS: the rack ===== -/
def RK (M : q_M) (b : Nat) (v : Nat → Nat) : Prop := ∀ k, k < 8 → v (1060 + 4 * k) ≤ 3 ∧ (v (1060 + 4 * k) = 3 → v (1060 + 4 * k + 1) < v 0) ∧ gI M (b + 10) k = nI (if v (1060 + 4 * k) = 0 then 3 else v (1060 + 4 * k) - 1) ∧ (1 ≤ v (1060 + 4 * k) → gL M (b + 11) k = lN (if v (1060 + 4 * k) = 3 then cS v (v (1060 + 4 * k + 1)) else v (1060 + 4 * k + 1))) ∧ (1 ≤ v (1060 + 4 * k) → v (1060 + 4 * k) ≤ 2 → gL M (b + 12) k = lN (v (1060 + 4 * k + 2)))
theorem RK.fb {P : Nat → Prop} {n s : Nat} {M M1 : q_M} (f : FB P n s M M1) {b : Nat} (hb : b + 21 ≤ gN M) (hq : ¬ P (b + 10) ∧ ¬ P (b + 11) ∧ ¬ P (b + 12)) {v : Nat → Nat} (h : RK M b v) : RK M1 b v := fun k hk => by
  obtain ⟨h1, h2, h3, h4, h5⟩ := h k hk
  exact ⟨h1, h2, ((f.2.2.2.2.1 (b + 10) k (by omega) hq.1).1).trans h3, fun z => ((f.2.2.2.2.1 (b + 11) k (by omega) hq.2.1).2.1).trans (h4 z), fun z y => ((f.2.2.2.2.1 (b + 12) k (by omega) hq.2.2).2.1).trans (h5 z y)⟩
theorem RK.cg {M : q_M} {b : Nat} {v u : Nat → Nat} (h : RK M b v) (e : ∀ x, 1060 ≤ x → x < 1100 → u x = v x) (e0 : v 0 ≤ u 0) (ec : ∀ i, i < v 0 → cS u i = cS v i) : RK M b u := fun k hk => by
  obtain ⟨h1, h2, h3, h4, h5⟩ := h k hk
  have q0 := e (1060 + 4 * k) (by omega) (by omega)
  have q1 := e (1060 + 4 * k + 1) (by omega) (by omega)
  have q2 := e (1060 + 4 * k + 2) (by omega) (by omega)
  rw [q0, q1, q2]
  refine ⟨h1, fun z => by have := h2 z; omega, h3, fun z => ?_, h5⟩
  rw [h4 z]
  by_cases c : v (1060 + 4 * k) = 3
  · rw [if_pos c, if_pos c, ec _ (h2 c)]
  · rw [if_neg c, if_neg c]
theorem a12 {M : q_M} (h : SH M) {k : Nat} (hk : k < 8) : q_aI M 14 12 (nI k) = some (gI M 12 k) := y_aI h (by omega) (by omega) rfl hk (by decide)
theorem K_ask_no {M : q_M} {x1 x2 : Int32} (n : ¬ (∃ k t, k < 8 ∧ x1 = nI k ∧ t < 6 ∧ x2 = nI t)) : q_CL 134 [.inr (.inr (some 1)), .inl x1, .inl x2] M = some (some (.inr (.inl (-4))), M) := by
  rw [C_X11_ask]
  by_cases c : x1 < 0
  · rw [if_pos c]
  rw [if_neg c]
  obtain ⟨k, hk, rfl⟩ := nI_of c
  by_cases c1 : 8 ≤ k
  · rw [if_pos (nI_le c1 hk)]
  rw [if_neg (nI_ge (by omega) (by omega))]
  by_cases c2 : x2 < 0
  · rw [if_pos c2]
  rw [if_neg c2]
  obtain ⟨t, ht, rfl⟩ := nI_of c2
  by_cases c3 : t ≤ 5
  · exact absurd ⟨k, t, by omega, rfl, by omega, rfl⟩ n
  · rw [if_neg (nI_ge (by omega) ht)]
theorem K_ask {v : Nat → Nat} {M : q_M} (h : SH M) (rk : RK M 2 v) {k t : Nat} (hk : k < 8) (ht : t < 6) : q_CL 134 [.inr (.inr (some 1)), .inl (nI k), .inl (nI t)] M = some (some (.inr (.inl (akV v k t))), M) := by
  obtain ⟨h1, h2, h3, h4, h5⟩ := rk k hk
  have h3' : gI M 12 k = nI (if v (1060 + 4 * k) = 0 then 3 else v (1060 + 4 * k) - 1) := h3
  rw [C_X11_ask, if_neg (nI_pos (by omega)), if_neg (nI_ge hk (by omega)), if_neg (nI_pos (by omega)), if_pos (nI_le (by omega) (by omega))]
  simp only [c_now h (show (1, 0, 2) ∈ q_crs by decide), s_now h (show (2, 6, 12) ∈ q_crs by decide), Option.bind_some, a12 h hk, h3']
  unfold akV
  by_cases c0 : v (1060 + 4 * k) = 0
  · rw [if_pos c0, if_pos rfl, if_pos c0]
  rw [if_neg c0, if_neg (fun z => by have := (nI_eq (by omega) (by omega)).mp z; omega), if_neg c0]
  have q4 := h4 (by omega)
  by_cases c5 : t = 5
  · rw [c5, if_pos rfl, if_pos rfl, nI_l (by omega)]
  rw [if_neg (fun z => c5 ((nI_eq (by omega) (by omega)).mp z)), if_neg c5, if_neg (show ¬ nI 2 = 0 by decide +kernel), pk_div (by omega) (by omega) (by omega)]
  by_cases c6 : v (1060 + 4 * k) - 1 = t / 2
  rotate_left
  · rw [if_neg (fun z => c6 ((nI_eq (by omega) (by omega)).mp z).symm), if_neg c6]
  rw [if_pos (by rw [c6]), if_pos c6, if_neg (show ¬ nI 2 = 0 by decide +kernel)]
  rw [show nI t - nI (t / 2) * nI 2 = nI (t % 2) by rw [pk_mul, pk_sub (by omega)]; congr 1; omega]
  have q4' : gL M 13 k = lN (if v (1060 + 4 * k) = 3 then cS v (v (1060 + 4 * k + 1)) else v (1060 + 4 * k + 1)) := q4
  by_cases c7 : t % 2 = 0
  · rw [c7, if_pos nI_0]
    simp only [c_now h (show (1, 0, 2) ∈ q_crs by decide), s_now h (show (2, 7, 13) ∈ q_crs by decide), Option.bind_some, y_aL h (show 1 ≤ 13 by omega) (show 13 < 63 by omega) rfl hk (by decide), q4']
    by_cases c8 : t = 4
    · rw [if_pos c8, if_pos (by omega)]
    · rw [if_neg c8, if_neg (by omega), Nat.add_zero]
  · have q5 : gL M 14 k = lN (v (1060 + 4 * k + 2)) := h5 (by omega) (by omega)
    rw [if_neg (fun z => c7 (by rw [show (0 : Int32) = nI 0 from nI_0.symm] at z; exact (nI_eq (by omega) (by omega)).mp z))]
    simp only [c_now h (show (1, 0, 2) ∈ q_crs by decide), s_now h (show (2, 8, 14) ∈ q_crs by decide), Option.bind_some, y_aL h (show 1 ≤ 14 by omega) (show 14 < 63 by omega) rfl hk (by decide), q5]
    rw [if_neg (by omega), show t % 2 = 1 by omega]
/-! lay -/
def rkP (a : Nat) : Prop := a = 12 ∨ a = 13 ∨ a = 14
theorem K_lor {M : q_M} (h : SH M) {k : Nat} (hk : k < 8) (x : Int32) (l3 l5 : Int64) : q_CL 60 [.inr (.inr (some 2)), .inl (nI k), .inl x, .inr (.inl l3), .inr (.inl l5)] M = some (some (.inl (nI 1)), stL (stL (stI M 12 k x) 13 k l3) 14 k l5) := by
  have hA : SH (stI M 12 k x) := h
  have hB : SH (stL (stI M 12 k x) 13 k l3) := h
  have e1 : q_bI M 14 12 (nI k) x = some (stI M 12 k x) := y_bI h (by omega) (by omega) rfl hk (by decide)
  have e2 : q_bL (stI M 12 k x) 13 (nI k) l3 = some (stL (stI M 12 k x) 13 k l3) := y_bL hA (by omega) (by omega) rfl hk (by decide)
  have e3 : q_bL (stL (stI M 12 k x) 13 k l3) 14 (nI k) l5 = some (stL (stL (stI M 12 k x) 13 k l3) 14 k l5) := y_bL hB (by omega) (by omega) rfl hk (by decide)
  rw [C_X8_layOnRack]
  simp only [s_now h (show (2, 6, 12) ∈ q_crs by decide), Option.bind_some, e1, s_now hA (show (2, 7, 13) ∈ q_crs by decide), e2, s_now hB (show (2, 8, 14) ∈ q_crs by decide), e3, if_pos (show nI 1 = 0 ∨ nI 1 = 1 from Or.inr rfl)]
theorem lyV_a {v : Nat → Nat} {k t a b : Nat} (ht : t < 4) (hk : k < 8) : lyV v k t a b (1060 + 4 * k) = (if t = 3 then 0 else t + 1) ∧ (t < 3 → lyV v k t a b (1060 + 4 * k + 1) = a) ∧ (t < 2 → lyV v k t a b (1060 + 4 * k + 2) = b) ∧ ∀ x, ¬ (1060 + 4 * k ≤ x ∧ x < 1060 + 4 * k + 3) → lyV v k t a b x = v x := by
  unfold lyV
  rcases (show t = 0 ∨ t = 1 ∨ t = 2 ∨ t = 3 by omega) with rfl | rfl | rfl | rfl
  · rw [if_neg (by omega), if_neg (by omega), if_neg (by omega)]
    refine ⟨va_up_self _ _ _, fun _ => ?_, fun _ => ?_, fun x hx => ?_⟩
    · rw [va_up_ne _ _ (by omega), va_up_ne _ _ (by omega)]; exact va_up_self _ _ _
    · rw [va_up_ne _ _ (by omega)]; exact va_up_self _ _ _
    · rw [va_up_ne _ _ (by omega), va_up_ne _ _ (by omega), va_up_ne _ _ (by omega)]
  · rw [if_neg (by omega), if_neg (by omega), if_neg (by omega)]
    refine ⟨va_up_self _ _ _, fun _ => ?_, fun _ => ?_, fun x hx => ?_⟩
    · rw [va_up_ne _ _ (by omega), va_up_ne _ _ (by omega)]; exact va_up_self _ _ _
    · rw [va_up_ne _ _ (by omega)]; exact va_up_self _ _ _
    · rw [va_up_ne _ _ (by omega), va_up_ne _ _ (by omega), va_up_ne _ _ (by omega)]
  · rw [if_neg (by omega), if_pos rfl, if_neg (by omega)]
    refine ⟨va_up_self _ _ _, fun _ => ?_, fun _ => by omega, fun x hx => ?_⟩
    · rw [va_up_ne _ _ (by omega)]; exact va_up_self _ _ _
    · rw [va_up_ne _ _ (by omega), va_up_ne _ _ (by omega)]
  · rw [if_pos rfl, if_pos rfl]
    refine ⟨va_up_self _ _ _, fun _ => by omega, fun _ => by omega, fun x hx => ?_⟩
    rw [va_up_ne _ _ (by omega)]
theorem RK_ly {v : Nat → Nat} (v8 : v 0 ≤ 8) {M : q_M} (rk : RK M 2 v) {k t a b : Nat} (hk : k < 8) (ht : t < 4) {l3 l5 : Int64} (c2 : t = 2 → a < v 0 ∧ l3 = lN (cS v a)) (c1 : t < 2 → l3 = lN a ∧ l5 = lN b) : RK (stL (stL (stI M 12 k (nI t)) 13 k l3) 14 k l5) 2 (lyV v k t a b) := fun i hi => by
  obtain ⟨y1, y2, y3, y4⟩ := lyV_a (v := v) (a := a) (b := b) ht hk
  have ecS : ∀ i, i < 8 → cS (lyV v k t a b) i = cS v i := fun i hi => y4 _ (by omega)
  have e0 := y4 0 (by omega)
  by_cases e : i = k
  · subst e
    rw [y1]
    refine ⟨by split <;> omega, fun z => ?_, ?_, fun z => ?_, fun z w => ?_⟩
    · have : t = 2 := by split at z <;> omega
      rw [y2 (by omega), e0]; exact (c2 this).1
    · show gI (stL (stL (stI M 12 i (nI t)) 13 i l3) 14 i l5) 12 i = _
      rw [gI_stL, gI_stL, gI_self]
      by_cases q : t = 3
      · rw [if_pos q, if_pos rfl, q]
      · rw [if_neg q, if_neg (by omega), Nat.add_sub_cancel]
    · show gL (stL (stL (stI M 12 i (nI t)) 13 i l3) 14 i l5) 13 i = _
      rw [gL_oth (by omega), gL_self]
      have t3 : ¬ t = 3 := fun q => by rw [if_pos q] at z; omega
      rw [if_neg t3]
      by_cases q : t = 2
      · have hv := c2 q
        rw [if_pos (by omega), y2 (by omega), hv.2]
        congr 1
        exact (ecS a (by have := hv.1; omega)).symm
      · rw [if_neg (by omega), y2 (by omega)]
        exact (c1 (by omega)).1
    · show gL (stL (stL (stI M 12 i (nI t)) 13 i l3) 14 i l5) 14 i = _
      have t2 : t < 2 := by split at w <;> split at z <;> omega
      rw [gL_self, y3 t2]
      exact (c1 t2).2
  · obtain ⟨h1, h2, h3, h4, h5⟩ := rk i hi
    have q0 := y4 (1060 + 4 * i) (by omega)
    have q1 := y4 (1060 + 4 * i + 1) (by omega)
    have q2 := y4 (1060 + 4 * i + 2) (by omega)
    rw [q0, q1, q2, e0]
    refine ⟨h1, h2, ?_, fun z => ?_, fun z w => ?_⟩
    · show gI (stL (stL (stI M 12 k (nI t)) 13 k l3) 14 k l5) 12 i = _
      rw [gI_stL, gI_stL, gI_oth (fun z => e z.2)]; exact h3
    · show gL (stL (stL (stI M 12 k (nI t)) 13 k l3) 14 k l5) 13 i = _
      rw [gL_oth (by omega), gL_oth (fun z => e z.2)]
      refine (h4 z).trans ?_
      by_cases c : v (1060 + 4 * i) = 3
      · rw [if_pos c, if_pos c, ecS _ (by have := h2 c; omega)]
      · rw [if_neg c, if_neg c]
    · show gL (stL (stL (stI M 12 k (nI t)) 13 k l3) 14 k l5) 14 i = _
      rw [gL_oth (fun z => e z.2)]
      exact h5 z w
theorem rkP_f {M : q_M} {k : Nat} {x : Int32} {l3 l5 : Int64} : FC rkP M (stL (stL (stI M 12 k x) 13 k l3) 14 k l5) := (((FC.rf rkP M).sI (Or.inl rfl)).sL (Or.inr (Or.inl rfl))).sL (Or.inr (Or.inr rfl))
theorem K_lay {v : Nat → Nat} (sv : SV v) {M : q_M} (h : SH M) (cs : CS M 2 v) (hs : HS M 2 v) (rk : RK M 2 v) {k t a b : Nat} {x3 x4 : Int32} (hk : k < 8) (ht : t < 4) (ly : lyC v x3 x4 t a b) : ∃ M1, q_CL 133 [.inr (.inr (some 1)), .inl (nI k), .inl (nI t), .inl x3, .inl x4] M = some (some (.inl (nI 1)), M1) ∧ FC rkP M M1 ∧ RK M1 2 (lyV v k t a b) := by
  have o1 : (nI 1 = 0 ∨ nI 1 = 1) := Or.inr rfl
  have v8 := sv.1.1
  have ne : ∀ a b, a < 4 → b < 4 → a ≠ b → ¬ nI a = nI b := fun a b ha hb z w => z ((nI_eq (by omega) (by omega)).mp w)
  have t2 : M.1 2 = 8 := h.1 2 (by omega)
  rw [C_X11_lay, if_neg (nI_pos (by omega)), if_pos (nI_lt hk (by omega))]
  rcases ly with ⟨rfl, rfl, rfl⟩ | ⟨rfl, a1, rfl, rfl⟩ | ⟨rfl, j, p, j1, rfl, j2, j3, rfl, rfl⟩ | ⟨rfl, j, n, j1, rfl, j2, rfl, j3, rfl, rfl⟩
  · refine ⟨_, ?_, rkP_f, RK_ly v8 rk hk ht (l3 := lN 0) (l5 := lN 0) (fun z => by omega) (fun z => by omega)⟩
    rw [if_neg (ne 3 0 (by omega) (by omega) (by omega)), if_neg (ne 3 1 (by omega) (by omega) (by omega)), if_neg (ne 3 2 (by omega) (by omega) (by omega)), if_pos rfl]
    simp only [c_now h (show (1, 0, 2) ∈ q_crs by decide), Option.bind_some, z_sel t2, K_lor h hk, z_rI, if_pos o1]
  · obtain ⟨o, o1', o2⟩ := K_cA sv.1 h cs a1
    have hc := sv.1.2 a a1
    refine ⟨_, ?_, rkP_f, RK_ly v8 rk hk ht (l3 := lN (cS v a)) (l5 := lN 0) (fun _ => ⟨a1, rfl⟩) (fun z => by omega)⟩
    rw [if_neg (ne 2 0 (by omega) (by omega) (by omega)), if_neg (ne 2 1 (by omega) (by omega) (by omega)), if_pos rfl]
    simp only [c_sel h, Option.bind_some, o1', z_rR]
    rw [C_X11_layCurve, if_neg (by simp)]
    simp only [c_now h (show (1, 0, 2) ∈ q_crs by decide), Option.bind_some, o2.tt, okI_S hc, z_sel t2, K_lor h hk, z_rI]
    rw [if_neg (show ¬ nI 1 = 0 by decide +kernel), if_pos o1]
    simp only [z_rI, Option.bind_some, if_pos o1]
  · obtain ⟨c, r, ps, sz, p1, p2, p3, p4, p5, _⟩ := HS.op h hs j1 j2
    have sw := sv.sw j1 j2
    have sw1 := sw.1
    have ki := (K_idx p5 sw.1 x4).2 p j3
    have jp := j3.1
    obtain ⟨d, d1, d2⟩ := p5.pt jp
    have w1 := (sw.2.2.2.2.1 p jp).2.1
    refine ⟨_, ?_, rkP_f, RK_ly v8 rk hk ht (l3 := lN (v (oS j + 4 + 6 * p + 5))) (l5 := lN (v (oS j + 4 + 6 * p + 4))) (fun z => by omega) (fun _ => ⟨rfl, rfl⟩)⟩
    rw [if_pos rfl]
    simp only [c_sel h, Option.bind_some, K_sA h hs j1 j2, z_rR]
    rw [C_X11_layPoint, if_neg (by simp)]
    simp only [p4, Option.bind_some, p5.sel, ki, z_rI]
    rw [if_pos (nI_pos' (by omega))]
    simp only [p4, Option.bind_some, p5.f0, d1, c_now h (show (1, 0, 2) ∈ q_crs by decide), d2.f.2.1, d2.f.2.2.2.2.2, nI_l (show v (oS j + 4 + 6 * p + 4) < 2 ^ 31 by omega), z_sel t2, K_lor h hk, z_rI, if_pos o1]
  · obtain ⟨c, r, ps, sz, p1, p2, p3, p4, p5, _⟩ := HS.op h hs j1 j2
    have sw := sv.sw j1 j2
    have sw1 := sw.1
    have sw2 := sw.2.1
    have pn := sw.pn j3
    have z1 := (sw.2.2.2.1 n j3).2
    have ks := K_start p5 (Nat.le_trans sw.2.1 sw.1) (show n ≤ v (oS j + 3) by omega)
    have kw := K_wts p5 sw1 (f := psm v (oS j) n) (n := v (oS j + 1804 + n)) pn
    have wb : ∀ m, m ≤ v (oS j + 1804 + n) → wsm v (oS j) (psm v (oS j) n) m ≤ 1000 * m := by
      intro m
      induction m with
      | zero => intro _; exact Nat.le_refl _
      | succ m ih =>
        intro hm
        have := ih (by omega)
        have := (sw.2.2.2.2.1 (psm v (oS j) n + m) (by omega)).2.1
        show wsm v (oS j) (psm v (oS j) n) m + v (oS j + 4 + 6 * (psm v (oS j) n + m) + 4) ≤ _
        omega
    have wb' := wb _ (Nat.le_refl _)
    refine ⟨_, ?_, rkP_f, RK_ly v8 rk hk ht (l3 := lN (v (oS j + 1804 + n))) (l5 := lN (wsm v (oS j) (psm v (oS j) n) (v (oS j + 1804 + n)))) (fun z => by omega) (fun _ => ⟨rfl, rfl⟩)⟩
    rw [if_neg (ne 1 0 (by omega) (by omega) (by omega)), if_pos rfl]
    simp only [c_sel h, Option.bind_some, K_sA h hs j1 j2, z_rR]
    rw [C_X11_layPage, if_neg (by simp), if_neg (nI_pos (by omega))]
    simp only [p4, Option.bind_some, p5.f3]
    rw [if_pos (nI_lt j3 (by omega))]
    simp only [p4, Option.bind_some, p5.f1, p5.sz j3, c_now h (show (1, 0, 2) ∈ q_crs by decide), p5.sel, ks, z_rI, kw, z_sel t2, nI_l (show v (oS j + 1804 + n) < 2 ^ 31 by omega), nI_l (show wsm v (oS j) (psm v (oS j) n) (v (oS j + 1804 + n)) < 2 ^ 31 by omega), K_lor h hk, if_pos o1]
theorem K_lay_no {v : Nat → Nat} (sv : SV v) {M : q_M} (h : SH M) (cs : CS M 2 v) (hs : HS M 2 v) {x1 x2 x3 x4 : Int32} (n : ¬ (∃ k t a b, k < 8 ∧ x1 = nI k ∧ t < 4 ∧ x2 = nI t ∧ lyC v x3 x4 t a b)) : q_CL 133 [.inr (.inr (some 1)), .inl x1, .inl x2, .inl x3, .inl x4] M = some (some (.inl (nI 0)), M) := by
  have o0 : (nI 0 = 0 ∨ nI 0 = 1) := Or.inl nI_0
  rw [C_X11_lay]
  by_cases c : x1 < 0
  · rw [if_pos c, if_pos o0]
  rw [if_neg c]
  obtain ⟨k, hk, rfl⟩ := nI_of c
  by_cases c1 : k < 8
  rotate_left
  · rw [if_neg (nI_nlt (by omega) hk), if_pos o0]
  rw [if_pos (nI_lt c1 (by omega))]
  by_cases t0 : x2 = nI 0
  · rw [if_pos t0]
    by_cases c2 : ∃ j, j < 4 ∧ x3 = nI j ∧ v (oS j) = 1
    · obtain ⟨j, hj, rfl, e⟩ := c2
      obtain ⟨cc, r, ps, sz, p1, p2, p3, p4, p5, _⟩ := HS.op h hs hj e
      have ki := (K_idx p5 (sv.sw hj e).1 x4).1 (nm_none (fun ⟨p, hp⟩ => n ⟨k, 0, _, _, c1, rfl, by omega, t0, Or.inr (Or.inr (Or.inl ⟨rfl, j, p, hj, rfl, e, hp, rfl, rfl⟩))⟩))
      simp only [c_sel h, Option.bind_some, K_sA h hs hj e, z_rR]
      rw [C_X11_layPoint, if_neg (by simp)]
      simp only [p4, Option.bind_some, p5.sel, ki, z_rI]
      rw [if_neg (by decide), if_pos o0]
      simp only [z_rI, Option.bind_some, if_pos o0]
    · simp only [c_sel h, Option.bind_some, K_sA_no sv h hs c2, z_rR]
      rw [C_X11_layPoint, if_pos rfl, if_neg (by decide), if_pos o0]
      simp only [z_rI, Option.bind_some, if_pos o0]
  rw [if_neg t0]
  by_cases t1 : x2 = nI 1
  · rw [if_pos t1]
    by_cases c2 : ∃ j, j < 4 ∧ x3 = nI j ∧ v (oS j) = 1
    · obtain ⟨j, hj, rfl, e⟩ := c2
      obtain ⟨cc, r, ps, sz, p1, p2, p3, p4, p5, _⟩ := HS.op h hs hj e
      have sw := sv.sw hj e
      have sw1 := sw.1
      have sw2 := sw.2.1
      simp only [c_sel h, Option.bind_some, K_sA h hs hj e, z_rR]
      rw [C_X11_layPage, if_neg (by simp)]
      by_cases c3 : x4 < 0
      · rw [if_pos c3, if_pos o0]
        simp only [z_rI, Option.bind_some, if_pos o0]
      rw [if_neg c3]
      obtain ⟨m, hm, rfl⟩ := nI_of c3
      simp only [p4, Option.bind_some, p5.f3]
      rw [if_neg (nI_nlt (by apply Classical.byContradiction; intro z; exact n ⟨k, 1, _, _, c1, rfl, by omega, t1, Or.inr (Or.inr (Or.inr ⟨rfl, j, m, hj, rfl, e, rfl, by omega, rfl, rfl⟩))⟩) hm), if_pos o0]
      simp only [z_rI, Option.bind_some, if_pos o0]
    · simp only [c_sel h, Option.bind_some, K_sA_no sv h hs c2, z_rR]
      rw [C_X11_layPage, if_pos rfl, if_pos o0]
      simp only [z_rI, Option.bind_some, if_pos o0]
  rw [if_neg t1]
  by_cases t2 : x2 = nI 2
  · rw [if_pos t2]
    have c2 : ¬ ∃ i, i < v 0 ∧ x4 = nI i := fun ⟨i, hi, e⟩ => n ⟨k, 2, i, 0, c1, rfl, by omega, t2, Or.inr (Or.inl ⟨rfl, hi, e, rfl⟩)⟩
    simp only [c_sel h, Option.bind_some, K_cA_no sv.1 h cs c2, z_rR]
    rw [C_X11_layCurve, if_pos rfl, if_pos o0]
    simp only [z_rI, Option.bind_some, if_pos o0]
  rw [if_neg t2]
  by_cases t3 : x2 = nI 3
  · exact absurd ⟨k, 3, 0, 0, c1, rfl, by omega, t3, Or.inl ⟨rfl, rfl, rfl⟩⟩ n
  rw [if_neg t3, if_pos o0]
