/-! ===== THE REFERENCE: curve ===== -/
theorem R_canC {M : q_M} {v : Nat → Nat} (h : SH M) (r : RI M v) {i a : Nat} (hi : i < 8) (ha : a < 3) (hc : okC (cK v i) (cD v i) (cL v i)) : q_CL 146 [.inr (.inr (some 49)), .inl (nI i), .inl (nI a)] M = some (some (.inl (nI (cB (cK v i) ^ cL v i a))), M) := by
  obtain ⟨k4, kd, kL, _, kz, _, k3⟩ := hc
  have hL : cL v i a ≤ 20 := kL a ha
  rw [C_X12_can]
  simp only [m_sel h, Option.bind_some, R_axes h r hi, R_kind h r hi, R_has h r hi ha, z_rI]
  simp only [nI_ltI (show a < 2 ^ 31 by omega) (show cD v i < 2 ^ 31 by omega), nI_eq (show cK v i < 2 ^ 31 by omega) (show 3 < 2 ^ 31 by omega)]
  by_cases hd : a < cD v i
  · rw [if_pos hd]
    by_cases h3 : cK v i = 3
    · rw [if_pos h3]
      have key : ∀ n j, j + n = cL v i a → q_RL T_X12_can (34, [some (.inr (.inr (some 49))), some (.inl (nI i)), some (.inl (nI a)), some (.inl (nI (3 ^ j))), some (.inl (nI j))], [], M) = some (some (.inl (nI (3 ^ cL v i a))), M) := by
        intro n
        induction n with
        | zero =>
          intro j hj
          rw [E_X12_can_34]
          simp only [m_sel h, Option.bind_some, R_has h r hi ha, z_rI]
          rw [if_pos (nI_le (by omega) (by omega)), show j = cL v i a by omega]
        | succ n ih =>
          intro j hj
          rw [E_X12_can_34]
          simp only [m_sel h, Option.bind_some, R_has h r hi ha, z_rI]
          rw [if_neg (nI_ge (by omega) (by omega)), pk_mul, nI_1, ← Nat.pow_succ]
          exact ih (j + 1) (by omega)
      rw [show cB (cK v i) = 3 from if_pos h3]
      exact key (cL v i a) 0 (by omega)
    · rw [if_neg h3, show cB (cK v i) = 2 from if_neg h3, sh1 _ (by omega)]
  · rw [if_neg hd, show cL v i a = 0 from kz a (by omega) ha, Nat.pow_zero]
/-- what may be a curve -/
def crG (K d a b c : Nat) : Prop := K ≤ 4 ∧ (d = 2 ∨ d = 3) ∧ 1 ≤ a ∧ a ≤ (if K = 3 then 12 else 20) ∧ ((K = 0 ∨ K = 4) → 1 ≤ b ∧ b ≤ 20 ∧ (d = 2 → c = 0) ∧ (d = 3 → 1 ≤ c ∧ c ≤ 20)) ∧ (¬ (K = 0 ∨ K = 4) → b = 0 ∧ c = 0)
def crL (K d a b c : Nat) (x : Nat) : Nat := if x = 0 then a else if x = 1 then (if K = 0 ∨ K = 4 then b else a) else if d = 2 then 0 else if K = 0 ∨ K = 4 then c else a
def cr6 (v : Nat → Nat) (K d : Nat) (L : Nat → Nat) : Nat → Nat := va_up (va_up (va_up (va_up (va_up (va_up v (1 + 6 * v 0) K) (1 + 6 * v 0 + 1) d) (1 + 6 * v 0 + 2) (L 0)) (1 + 6 * v 0 + 3) (L 1)) (1 + 6 * v 0 + 4) (L 2)) 0 (v 0 + 1)
def crV (v : Nat → Nat) (K d : Nat) (L : Nat → Nat) : Nat → Nat := va_up (cr6 v K d L) (1 + 6 * v 0 + 5) (cB K ^ lsm L)
theorem cr6_a (v : Nat → Nat) (K d : Nat) (L : Nat → Nat) : cK (cr6 v K d L) (v 0) = K ∧ cD (cr6 v K d L) (v 0) = d ∧ (∀ x, x < 3 → cL (cr6 v K d L) (v 0) x = L x) ∧ cr6 v K d L 0 = v 0 + 1 ∧ ∀ x, x ≠ 0 → x < 1 + 6 * v 0 ∨ 1 + 6 * v 0 + 5 ≤ x → cr6 v K d L x = v x := by
  unfold cr6 cK cD cL
  refine ⟨?_, ?_, fun x hx => ?_, va_up_self _ _ _, fun x hx hy => ?_⟩
  · rw [va_up_ne _ _ (by omega), va_up_ne _ _ (by omega), va_up_ne _ _ (by omega), va_up_ne _ _ (by omega), va_up_ne _ _ (by omega), va_up_self]
  · rw [va_up_ne _ _ (by omega), va_up_ne _ _ (by omega), va_up_ne _ _ (by omega), va_up_ne _ _ (by omega), va_up_self]
  · rcases (show x = 0 ∨ x = 1 ∨ x = 2 by omega) with rfl | rfl | rfl
    · rw [va_up_ne _ _ (by omega), va_up_ne _ _ (by omega), va_up_ne _ _ (by omega), va_up_self]
    · rw [va_up_ne _ _ (by omega), va_up_ne _ _ (by omega), va_up_self]
    · rw [va_up_ne _ _ (by omega), va_up_self]
  · rw [va_up_ne _ _ (by omega), va_up_ne _ _ (by omega), va_up_ne _ _ (by omega), va_up_ne _ _ (by omega), va_up_ne _ _ (by omega), va_up_ne _ _ (by omega)]
theorem crV_a (v : Nat → Nat) (K d : Nat) (L : Nat → Nat) : cK (crV v K d L) (v 0) = K ∧ cD (crV v K d L) (v 0) = d ∧ (∀ x, x < 3 → cL (crV v K d L) (v 0) x = L x) ∧ cS (crV v K d L) (v 0) = cB K ^ lsm L ∧ crV v K d L 0 = v 0 + 1 ∧ ∀ x, x ≠ 0 → x < 1 + 6 * v 0 ∨ 1 + 6 * v 0 + 6 ≤ x → crV v K d L x = v x := by
  obtain ⟨a1, a2, a3, a4, a5⟩ := cr6_a v K d L
  unfold crV
  refine ⟨?_, ?_, fun x hx => ?_, va_up_self _ _ _, ?_, fun x hx hy => ?_⟩
  · exact (va_up_ne _ _ (show 1 + 6 * v 0 ≠ 1 + 6 * v 0 + 5 by omega)).trans a1
  · exact (va_up_ne _ _ (show 1 + 6 * v 0 + 1 ≠ 1 + 6 * v 0 + 5 by omega)).trans a2
  · exact (va_up_ne _ _ (show 1 + 6 * v 0 + (2 + x) ≠ 1 + 6 * v 0 + 5 by omega)).trans (a3 x hx)
  · rw [va_up_ne _ _ (by omega), a4]
  · rw [va_up_ne _ _ (by omega), a5 x hx (by omega)]
theorem crG_ok {K d a b c : Nat} (h : crG K d a b c) : okC K d (crL K d a b c) := by
  obtain ⟨h1, h2, h3, h4, h5, h6⟩ := h
  have h4' : a ≤ 20 ∧ (K = 3 → a ≤ 12) := by
    by_cases e : K = 3
    · rw [if_pos e] at h4; exact ⟨by omega, fun _ => h4⟩
    · rw [if_neg e] at h4; exact ⟨h4, fun z => absurd z e⟩
  by_cases o : K = 0 ∨ K = 4
  · obtain ⟨b1, b2, b3, b4⟩ := h5 o
    have e0 : crL K d a b c 0 = a := rfl
    have e1 : crL K d a b c 1 = b := by unfold crL; rw [if_neg (by omega), if_pos rfl, if_pos o]
    have e2 : crL K d a b c 2 = if d = 2 then 0 else c := by unfold crL; rw [if_neg (by omega), if_neg (by omega), if_pos o]
    have e2b : crL K d a b c 2 ≤ 20 ∧ (d = 3 → 1 ≤ crL K d a b c 2) ∧ (d = 2 → crL K d a b c 2 = 0) := by
      rw [e2]
      by_cases q : d = 2
      · rw [if_pos q]; omega
      · rw [if_neg q]; have := b4 (by omega); omega
    refine ⟨h1, h2, fun x hx => ?_, fun x hx => ?_, fun x hx hy => ?_, fun z x hx => by omega, fun z => by omega⟩
    · rcases (show x = 0 ∨ x = 1 ∨ x = 2 by omega) with rfl | rfl | rfl <;> omega
    · rcases (show x = 0 ∨ x = 1 ∨ x = 2 by omega) with rfl | rfl | rfl
      · omega
      · omega
      · exact e2b.2.1 (by omega)
    · have : x = 2 := by omega
      subst this
      exact e2b.2.2 (by omega)
  · have e0 : crL K d a b c 0 = a := rfl
    have e1 : crL K d a b c 1 = a := by unfold crL; rw [if_neg (by omega), if_pos rfl, if_neg o]
    have e2 : crL K d a b c 2 = if d = 2 then 0 else a := by unfold crL; rw [if_neg (by omega), if_neg (by omega), if_neg o]
    have e2b : crL K d a b c 2 ≤ 20 ∧ (d = 3 → crL K d a b c 2 = a) ∧ (d = 2 → crL K d a b c 2 = 0) := by
      rw [e2]
      by_cases q : d = 2
      · rw [if_pos q]; omega
      · rw [if_neg q]; omega
    refine ⟨h1, h2, fun x hx => ?_, fun x hx => ?_, fun x hx hy => ?_, fun z x hx => ?_, fun z => by rw [e0]; exact h4'.2 z⟩
    · rcases (show x = 0 ∨ x = 1 ∨ x = 2 by omega) with rfl | rfl | rfl <;> omega
    · rcases (show x = 0 ∨ x = 1 ∨ x = 2 by omega) with rfl | rfl | rfl
      · omega
      · omega
      · rw [e2b.2.1 (by omega)]; exact h3
    · have : x = 2 := by omega
      subst this
      exact e2b.2.2 (by omega)
    · rw [e0]
      rcases (show x = 0 ∨ x = 1 ∨ x = 2 by omega) with rfl | rfl | rfl
      · rfl
      · exact e1
      · exact e2b.2.1 (by omega)
theorem R_cv137 {v : Nat → Nat} (wc : WC v) (h8 : v 0 < 8) {K d a b c : Nat} (hg : crG K d a b c) {x7 : Option q_V} {w : Nat → Int32} {M : q_M} (h : SH M) (r : RI M v) (wi : WI M w) {ow : Nat} (eow : ow = if K = 0 ∨ K = 4 then 1 else 0) {y7 : Int32} : ∃ M1, q_RL T_X12_curve (137, [some (.inr (.inr (some 49))), some (.inl (nI K)), some (.inl (nI d)), some (.inl (nI a)), some (.inl (nI b)), some (.inl (nI c)), some (.inl (nI ow)), some (.inl y7), none, none, none], [.inl (nI 1)], M) = some (some (.inl (nI (v 0))), M1) ∧ FL f50 M M1 ∧ RI M1 (crV v K d (crL K d a b c)) ∧ WI M1 w := by
  have hok := crG_ok hg
  obtain ⟨g1, g2, g3, g4, g5, g6⟩ := hg
  have f : f50 50 := rfl
  have hL : ∀ x, x < 3 → crL K d a b c x ≤ 20 := hok.2.2.1
  have l0 := hL 0 (by omega)
  have l1 := hL 1 (by omega)
  have l2 := hL 2 (by omega)
  obtain ⟨a1, a2, a3, a4, a5⟩ := cr6_a v K d (crL K d a b c)
  have r0 := r 0 (by omega) (by omega)
  have r6 : RI (stL (stL (stL (stL (stL (stL M 50 (1 + 6 * v 0) (lN K)) 50 (1 + 6 * v 0 + 1) (lN d)) 50 (1 + 6 * v 0 + 2) (lN (crL K d a b c 0))) 50 (1 + 6 * v 0 + 3) (lN (crL K d a b c 1))) 50 (1 + 6 * v 0 + 4) (lN (crL K d a b c 2))) 50 0 (lN (v 0 + 1))) (cr6 v K d (crL K d a b c)) := RI_up (RI_up (RI_up (RI_up (RI_up (RI_up r (by omega)) (by omega)) (by omega)) (by omega)) (by omega)) (by omega)
  have hc6 : okC (cK (cr6 v K d (crL K d a b c)) (v 0)) (cD (cr6 v K d (crL K d a b c)) (v 0)) (cL (cr6 v K d (crL K d a b c)) (v 0)) := by
    obtain ⟨k1, k2, k3, k4, k5, k6, k7⟩ := hok
    unfold okC
    rw [a1, a2]
    refine ⟨k1, k2, fun x hx => by rw [a3 x hx]; exact k3 x hx, fun x hx => by rw [a3 x (by omega)]; exact k4 x hx, fun x hx hy => by rw [a3 x hy]; exact k5 x hx hy, fun z x hx => by rw [a3 x (by omega), a3 0 (by omega)]; exact k6 z x hx, fun z => by rw [a3 0 (by omega)]; exact k7 z⟩
  have h1 : SH (stL M 50 (1 + 6 * v 0) (lN K)) := h
  have h2 : SH (stL (stL M 50 (1 + 6 * v 0) (lN K)) 50 (1 + 6 * v 0 + 1) (lN d)) := h
  have h3 : SH (stL (stL (stL M 50 (1 + 6 * v 0) (lN K)) 50 (1 + 6 * v 0 + 1) (lN d)) 50 (1 + 6 * v 0 + 2) (lN (crL K d a b c 0))) := h
  have h4 : SH (stL (stL (stL (stL M 50 (1 + 6 * v 0) (lN K)) 50 (1 + 6 * v 0 + 1) (lN d)) 50 (1 + 6 * v 0 + 2) (lN (crL K d a b c 0))) 50 (1 + 6 * v 0 + 3) (lN (crL K d a b c 1))) := h
  have h5 : SH (stL (stL (stL (stL (stL M 50 (1 + 6 * v 0) (lN K)) 50 (1 + 6 * v 0 + 1) (lN d)) 50 (1 + 6 * v 0 + 2) (lN (crL K d a b c 0))) 50 (1 + 6 * v 0 + 3) (lN (crL K d a b c 1))) 50 (1 + 6 * v 0 + 4) (lN (crL K d a b c 2))) := h
  have r05 : gL (stL (stL (stL (stL (stL M 50 (1 + 6 * v 0) (lN K)) 50 (1 + 6 * v 0 + 1) (lN d)) 50 (1 + 6 * v 0 + 2) (lN (crL K d a b c 0))) 50 (1 + 6 * v 0 + 3) (lN (crL K d a b c 1))) 50 (1 + 6 * v 0 + 4) (lN (crL K d a b c 2))) 50 0 = lN (v 0) := by
    rw [gL_stL, if_neg (by omega), gL_stL, if_neg (by omega), gL_stL, if_neg (by omega), gL_stL, if_neg (by omega), gL_stL, if_neg (by omega)]
    exact r0.1
  have w6' : WI (stL (stL (stL (stL (stL (stL M 50 (1 + 6 * v 0) (lN K)) 50 (1 + 6 * v 0 + 1) (lN d)) 50 (1 + 6 * v 0 + 2) (lN (crL K d a b c 0))) 50 (1 + 6 * v 0 + 3) (lN (crL K d a b c 1))) 50 (1 + 6 * v 0 + 4) (lN (crL K d a b c 2))) 50 0 (lN (v 0 + 1))) w := fun j hj => by
    rw [gL_stL, if_neg (by omega), gL_stL, if_neg (by omega), gL_stL, if_neg (by omega), gL_stL, if_neg (by omega), gL_stL, if_neg (by omega), gL_stL, if_neg (by omega)]
    exact wi j hj
  have h6 : SH (stL (stL (stL (stL (stL (stL M 50 (1 + 6 * v 0) (lN K)) 50 (1 + 6 * v 0 + 1) (lN d)) 50 (1 + 6 * v 0 + 2) (lN (crL K d a b c 0))) 50 (1 + 6 * v 0 + 3) (lN (crL K d a b c 1))) 50 (1 + 6 * v 0 + 4) (lN (crL K d a b c 2))) 50 0 (lN (v 0 + 1))) := h
  have f6 : FL f50 M (stL (stL (stL (stL (stL (stL M 50 (1 + 6 * v 0) (lN K)) 50 (1 + 6 * v 0 + 1) (lN d)) 50 (1 + 6 * v 0 + 2) (lN (crL K d a b c 0))) 50 (1 + 6 * v 0 + 3) (lN (crL K d a b c 1))) 50 (1 + 6 * v 0 + 4) (lN (crL K d a b c 2))) 50 0 (lN (v 0 + 1))) := ((((((FL.rf f50 M).st f).st f).st f).st f).st f).st f
  have q0 := R_canC h6 r6 h8 (show 0 < 3 by omega) hc6
  have q1 := R_canC h6 r6 h8 (show 1 < 3 by omega) hc6
  have q2 := R_canC h6 r6 h8 (show 2 < 3 by omega) hc6
  rw [a1, a3 _ (by omega)] at q0 q1 q2
  have pw : ∀ x, x < 3 → cB K ^ crL K d a b c x ≤ 2 ^ 20 := fun x hx => by
    by_cases e3 : K = 3
    · rw [show cB K = 3 from if_pos e3]
      have : crL K d a b c x ≤ 12 := by
        by_cases hd : x < d
        · rw [hok.2.2.2.2.2.1 (Or.inr (Or.inr e3)) x hd]; exact hok.2.2.2.2.2.2 e3
        · rw [hok.2.2.2.2.1 x (by omega) hx]; omega
      exact Nat.le_trans (Nat.pow_le_pow_right (by omega) this) (by decide)
    · rw [show cB K = 2 from if_neg e3]
      exact Nat.pow_le_pow_right (by omega) (hL x hx)
  have p0 := pw 0 (by omega)
  have p1 := pw 1 (by omega)
  have p2 := pw 2 (by omega)
  have eP : cB K ^ crL K d a b c 0 * cB K ^ crL K d a b c 1 * cB K ^ crL K d a b c 2 = cB K ^ lsm (crL K d a b c) := by
    unfold lsm
    rw [← Nat.pow_add, ← Nat.pow_add]
  have bP : cB K ^ lsm (crL K d a b c) < 2 ^ 62 := by
    rw [← eP]
    have := Nat.mul_le_mul (Nat.mul_le_mul p0 p1) p2
    exact Nat.lt_of_le_of_lt this (by decide)
  refine ⟨stL (stL (stL (stL (stL (stL (stL M 50 (1 + 6 * v 0) (lN K)) 50 (1 + 6 * v 0 + 1) (lN d)) 50 (1 + 6 * v 0 + 2) (lN (crL K d a b c 0))) 50 (1 + 6 * v 0 + 3) (lN (crL K d a b c 1))) 50 (1 + 6 * v 0 + 4) (lN (crL K d a b c 2))) 50 0 (lN (v 0 + 1))) 50 (1 + 6 * v 0 + 5) (lN (cB K ^ lsm (crL K d a b c))), ?_, f6.st f, RI_up r6 bP, fun j hj => by rw [gL_stL, if_neg (by omega)]; exact w6' j hj⟩
  have ea : a = crL K d a b c 0 := rfl
  have e1 : (if K = 0 ∨ K = 4 then b else a) = crL K d a b c 1 := rfl
  have e2 : (if d = 2 then 0 else if K = 0 ∨ K = 4 then c else a) = crL K d a b c 2 := rfl
  have ab : a < 2 ^ 31 := by omega
  have fin : ∀ x, x = lN (cB K ^ crL K d a b c 0 * cB K ^ crL K d a b c 1 * cB K ^ crL K d a b c 2) → x = lN (cB K ^ lsm (crL K d a b c)) := fun x z => by rw [z, eP]
  rw [E_X12_curve_137, if_neg (show ¬ nI 1 = 0 by decide +kernel)]
  simp only [m_s h, Option.bind_some, m_aL h (show 0 < 60190 by omega), r0.1, lN_i, pk_mul, nI_add, nI_l (show K < 2 ^ 31 by omega), nI_l (show d < 2 ^ 31 by omega), m_bL h (show 1 + 6 * v 0 < 60190 by omega), m_s h1, m_bL h1 (show 1 + 6 * v 0 + 1 < 60190 by omega), m_s h2, nI_l ab, m_bL h2 (show 1 + 6 * v 0 + 2 < 60190 by omega), nI_eq (show d < 2 ^ 31 by omega) (show 2 < 2 ^ 31 by omega)]
  by_cases o : K = 0 ∨ K = 4
  · obtain ⟨b1, b2, b3, b4⟩ := g5 o
    rw [if_pos o] at e1
    have eo1 : ow = 1 := by rw [eow, if_pos o]
    rw [eo1]
    have bb : b < 2 ^ 31 := by omega
    have h3' : SH (stL (stL (stL M 50 (1 + 6 * v 0) (lN K)) 50 (1 + 6 * v 0 + 1) (lN d)) 50 (1 + 6 * v 0 + 2) (lN a)) := h
    simp only [if_neg (show ¬ nI 1 = 0 by decide +kernel), m_s h3', Option.bind_some, nI_l bb, m_bL h3' (show 1 + 6 * v 0 + 3 < 60190 by omega)]
    have h4' : SH (stL (stL (stL (stL M 50 (1 + 6 * v 0) (lN K)) 50 (1 + 6 * v 0 + 1) (lN d)) 50 (1 + 6 * v 0 + 2) (lN a)) 50 (1 + 6 * v 0 + 3) (lN b)) := h
    by_cases hd : d = 2
    · rw [if_pos hd] at e2
      simp only [if_pos hd, m_s h4', Option.bind_some, m_bL h4' (show 1 + 6 * v 0 + 4 < 60190 by omega)]
      rw [show stL (stL (stL (stL (stL M 50 (1 + 6 * v 0) (lN K)) 50 (1 + 6 * v 0 + 1) (lN d)) 50 (1 + 6 * v 0 + 2) (lN a)) 50 (1 + 6 * v 0 + 3) (lN b)) 50 (1 + 6 * v 0 + 4) (lN 0) = stL (stL (stL (stL (stL M 50 (1 + 6 * v 0) (lN K)) 50 (1 + 6 * v 0 + 1) (lN d)) 50 (1 + 6 * v 0 + 2) (lN (crL K d a b c 0))) 50 (1 + 6 * v 0 + 3) (lN (crL K d a b c 1))) 50 (1 + 6 * v 0 + 4) (lN (crL K d a b c 2)) by rw [← e1, ← e2]; rfl]
      simp only [m_s h5, Option.bind_some, m_aL h5 (show 0 < 60190 by omega), r05, lN_add, m_bL h5 (show 0 < 60190 by omega), m_s h6, m_sel h6, q0, q1, q2, z_rI, nI_l (show cB K ^ crL K d a b c 0 < 2 ^ 31 by omega), nI_l (show cB K ^ crL K d a b c 1 < 2 ^ 31 by omega), nI_l (show cB K ^ crL K d a b c 2 < 2 ^ 31 by omega), lN_mul, eP, m_bL h6 (show 1 + 6 * v 0 + 5 < 60190 by omega)]
    · rw [if_neg hd, if_pos o] at e2
      have cc : c < 2 ^ 31 := by have := b4 (by omega); omega
      simp only [if_neg hd, nI_l cc, m_s h4', Option.bind_some, m_bL h4' (show 1 + 6 * v 0 + 4 < 60190 by omega)]
      rw [show stL (stL (stL (stL (stL M 50 (1 + 6 * v 0) (lN K)) 50 (1 + 6 * v 0 + 1) (lN d)) 50 (1 + 6 * v 0 + 2) (lN a)) 50 (1 + 6 * v 0 + 3) (lN b)) 50 (1 + 6 * v 0 + 4) (lN c) = stL (stL (stL (stL (stL M 50 (1 + 6 * v 0) (lN K)) 50 (1 + 6 * v 0 + 1) (lN d)) 50 (1 + 6 * v 0 + 2) (lN (crL K d a b c 0))) 50 (1 + 6 * v 0 + 3) (lN (crL K d a b c 1))) 50 (1 + 6 * v 0 + 4) (lN (crL K d a b c 2)) by rw [← e1, ← e2]; rfl]
      simp only [m_s h5, Option.bind_some, m_aL h5 (show 0 < 60190 by omega), r05, lN_add, m_bL h5 (show 0 < 60190 by omega), m_s h6, m_sel h6, q0, q1, q2, z_rI, nI_l (show cB K ^ crL K d a b c 0 < 2 ^ 31 by omega), nI_l (show cB K ^ crL K d a b c 1 < 2 ^ 31 by omega), nI_l (show cB K ^ crL K d a b c 2 < 2 ^ 31 by omega), lN_mul, eP, m_bL h6 (show 1 + 6 * v 0 + 5 < 60190 by omega)]
  · rw [if_neg o] at e1
    have eo1 : ow = 0 := by rw [eow, if_neg o]
    rw [eo1]
    have h3' : SH (stL (stL (stL M 50 (1 + 6 * v 0) (lN K)) 50 (1 + 6 * v 0 + 1) (lN d)) 50 (1 + 6 * v 0 + 2) (lN a)) := h
    simp only [if_pos nI_0, m_s h3', Option.bind_some, m_bL h3' (show 1 + 6 * v 0 + 3 < 60190 by omega)]
    have h4' : SH (stL (stL (stL (stL M 50 (1 + 6 * v 0) (lN K)) 50 (1 + 6 * v 0 + 1) (lN d)) 50 (1 + 6 * v 0 + 2) (lN a)) 50 (1 + 6 * v 0 + 3) (lN a)) := h
    by_cases hd : d = 2
    · rw [if_pos hd] at e2
      simp only [if_pos hd, m_s h4', Option.bind_some, m_bL h4' (show 1 + 6 * v 0 + 4 < 60190 by omega)]
      rw [show stL (stL (stL (stL (stL M 50 (1 + 6 * v 0) (lN K)) 50 (1 + 6 * v 0 + 1) (lN d)) 50 (1 + 6 * v 0 + 2) (lN a)) 50 (1 + 6 * v 0 + 3) (lN a)) 50 (1 + 6 * v 0 + 4) (lN 0) = stL (stL (stL (stL (stL M 50 (1 + 6 * v 0) (lN K)) 50 (1 + 6 * v 0 + 1) (lN d)) 50 (1 + 6 * v 0 + 2) (lN (crL K d a b c 0))) 50 (1 + 6 * v 0 + 3) (lN (crL K d a b c 1))) 50 (1 + 6 * v 0 + 4) (lN (crL K d a b c 2)) by rw [← e1, ← e2]; rfl]
      simp only [m_s h5, Option.bind_some, m_aL h5 (show 0 < 60190 by omega), r05, lN_add, m_bL h5 (show 0 < 60190 by omega), m_s h6, m_sel h6, q0, q1, q2, z_rI, nI_l (show cB K ^ crL K d a b c 0 < 2 ^ 31 by omega), nI_l (show cB K ^ crL K d a b c 1 < 2 ^ 31 by omega), nI_l (show cB K ^ crL K d a b c 2 < 2 ^ 31 by omega), lN_mul, eP, m_bL h6 (show 1 + 6 * v 0 + 5 < 60190 by omega)]
    · rw [if_neg hd, if_neg o] at e2
      simp only [if_neg hd, m_s h4', Option.bind_some, m_bL h4' (show 1 + 6 * v 0 + 4 < 60190 by omega)]
      rw [show stL (stL (stL (stL (stL M 50 (1 + 6 * v 0) (lN K)) 50 (1 + 6 * v 0 + 1) (lN d)) 50 (1 + 6 * v 0 + 2) (lN a)) 50 (1 + 6 * v 0 + 3) (lN a)) 50 (1 + 6 * v 0 + 4) (lN a) = stL (stL (stL (stL (stL M 50 (1 + 6 * v 0) (lN K)) 50 (1 + 6 * v 0 + 1) (lN d)) 50 (1 + 6 * v 0 + 2) (lN (crL K d a b c 0))) 50 (1 + 6 * v 0 + 3) (lN (crL K d a b c 1))) 50 (1 + 6 * v 0 + 4) (lN (crL K d a b c 2)) by rw [← e1, ← e2]; rfl]
      simp only [m_s h5, Option.bind_some, m_aL h5 (show 0 < 60190 by omega), r05, lN_add, m_bL h5 (show 0 < 60190 by omega), m_s h6, m_sel h6, q0, q1, q2, z_rI, nI_l (show cB K ^ crL K d a b c 0 < 2 ^ 31 by omega), nI_l (show cB K ^ crL K d a b c 1 < 2 ^ 31 by omega), nI_l (show cB K ^ crL K d a b c 2 < 2 ^ 31 by omega), lN_mul, eP, m_bL h6 (show 1 + 6 * v 0 + 5 < 60190 by omega)]
