/-! ===== WHAT STANDS: the same curve in another state ===== -/
theorem nI_nm1 {n : Nat} (h : n < 2 ^ 31) : ¬ nI n = -1 := fun e => by
  have := congrArg Int32.toInt e
  rw [nI_toInt h, show (-1 : Int32).toInt = -1 by decide +kernel] at this
  omega
theorem bx_cg {c c' : Cm} {D : Nat} (g : Gd c D) (e1 : c'.1 = c.1) (e2 : c'.2.1 = c.2.1) (e3 : c'.2.2.1 = c.2.2.1) (e4 : c'.2.2.2.1 = c.2.2.2.1) (e5 : ∀ a, a < 3 → c'.2.2.2.2 a = c.2.2.2.2 a) : ∀ k p, k ≤ D → p < c.1 ^ k → (∀ a, a < 3 → (bx c' k p).1 a = (bx c k p).1 a ∧ (bx c' k p).2.1 a = (bx c k p).2.1 a) ∧ (bx c' k p).2.2 = (bx c k p).2.2
  | 0, _, _, _ => ⟨fun a ha => ⟨rfl, e5 a ha⟩, rfl⟩
  | k + 1, p, hk, hp => by
    have hB := g.1
    have hp2 : p / c.1 < c.1 ^ k := by
      rw [Nat.div_lt_iff_lt_mul (by omega), ← Nat.pow_succ]
      exact hp
    obtain ⟨i1, i2⟩ := bx_cg g e1 e2 e3 e4 e5 k (p / c.1) (by omega) hp2
    obtain ⟨h3, _⟩ := g.2.1 k (p / c.1) (by omega) hp2
    have i3 := i1 _ h3
    unfold bx
    unfold bs
    rw [e1, e2, e3, e4, i2, i3.1, i3.2]
    refine ⟨fun a ha => ?_, rfl⟩
    have i4 := i1 a ha
    by_cases e : a = c.2.1 k (bx c k (p / c.1)).2.2
    · dsimp only
      rw [← e, va_up_self, va_up_self, va_up_self, va_up_self, e]
      exact ⟨rfl, rfl⟩
    · dsimp only
      rw [va_up_ne _ _ e, va_up_ne _ _ e, va_up_ne _ _ e, va_up_ne _ _ e]
      exact i4
theorem np_cg {c c' : Cm} {D : Nat} (g : Gd c D) (e1 : c'.1 = c.1) (e2 : c'.2.1 = c.2.1) (e3 : c'.2.2.1 = c.2.2.1) (e4 : c'.2.2.2.1 = c.2.2.2.1) (e5 : ∀ a, a < 3 → c'.2.2.2.2 a = c.2.2.2.2 a) {q : Nat → Nat} (hq : inb (bx c 0 0) q) : ∀ k, k ≤ D → np c' q k = np c q k
  | 0, _ => rfl
  | k + 1, hk => by
    have ih := np_cg g e1 e2 e3 e4 e5 hq k (by omega)
    have hp := (np_in g hq k (by omega)).1
    obtain ⟨i1, i2⟩ := bx_cg g e1 e2 e3 e4 e5 k (np c q k) (by omega) hp
    obtain ⟨h3, _⟩ := g.2.1 k _ (by omega) hp
    have i3 := i1 _ h3
    show np c' q k * c'.1 + dgt c' k (np c' q k) q = np c q k * c.1 + dgt c k (np c q k) q
    rw [ih, e1]
    unfold dgt bxp bxa
    rw [e1, e2, e3, i2, i3.1, i3.2]
theorem owB_cg {L L' : Nat → Nat} (h : ∀ a, a < 3 → L' a = L a) (b : Nat) : owB L' b = owB L b := by
  unfold owB
  simp only [List.filter_cons, List.filter_nil, h 0 (by omega), h 1 (by omega), h 2 (by omega)]
theorem owN_cg {L L' : Nat → Nat} (h : ∀ a, a < 3 → L' a = L a) : ∀ n, owN L' n = owN L n
  | 0 => rfl
  | n + 1 => by
    show owB L' n ++ owN L' n = owB L n ++ owN L n
    rw [owB_cg h, owN_cg h n]
theorem owK_cg {L L' : Nat → Nat} (h : ∀ a, a < 3 → L' a = L a) (K : Nat) : owK K L' = owK K L := by
  unfold owK owR owW
  rw [h 0 (by omega), h 1 (by omega), h 2 (by omega), owN_cg h]
theorem cmO_cg {L L' : Nat → Nat} (h : ∀ a, a < 3 → L' a = L a) (K d : Nat) : (cmO K d L').1 = (cmO K d L).1 ∧ (cmO K d L').2.1 = (cmO K d L).2.1 ∧ (cmO K d L').2.2.1 = (cmO K d L).2.2.1 ∧ (cmO K d L').2.2.2.1 = (cmO K d L).2.2.2.1 ∧ ∀ a, a < 3 → (cmO K d L').2.2.2.2 a = (cmO K d L).2.2.2.2 a := by
  have hW : owW L' = owW L := owN_cg h 20
  have hK := owK_cg h K
  unfold cmO
  by_cases h2 : K = 2
  · rw [if_pos h2, if_pos h2]
    exact ⟨rfl, rfl, rfl, rfl, fun a ha => congrArg (2 ^ ·) (h a ha)⟩
  · rw [if_neg h2, if_neg h2]
    by_cases h3 : K = 3
    · rw [if_pos h3, if_pos h3, hW]
      exact ⟨rfl, rfl, rfl, rfl, fun a ha => congrArg (3 ^ ·) (h a ha)⟩
    · rw [if_neg h3, if_neg h3, hK]
      exact ⟨rfl, rfl, rfl, rfl, fun a ha => congrArg (2 ^ ·) (h a ha)⟩
theorem cX_cg {v u : Nat → Nat} (h : ∀ x, x < 49 → u x = v x) {i : Nat} (hi : i < 8) : cK u i = cK v i ∧ cD u i = cD v i ∧ (∀ a, a < 3 → cL u i a = cL v i a) ∧ cS u i = cS v i := ⟨h _ (by omega), h _ (by omega), fun a ha => h _ (by omega), h _ (by omega)⟩
theorem okI_cg {v u : Nat → Nat} (h : ∀ x, x < 49 → u x = v x) {i : Nat} (hi : i < 8) (hc : okI v i) : okI u i := by
  obtain ⟨e1, e2, e3, e4⟩ := cX_cg h hi
  obtain ⟨⟨k1, k2, k3, k4, k5, k6, k7⟩, k8⟩ := hc
  have hs : lsm (cL u i) = lsm (cL v i) := by unfold lsm; rw [e3 0 (by omega), e3 1 (by omega), e3 2 (by omega)]
  refine ⟨?_, by rw [e4, e1, hs]; exact k8⟩
  unfold okC
  rw [e1, e2]
  refine ⟨k1, k2, fun a ha => by rw [e3 a ha]; exact k3 a ha, fun a ha => by rw [e3 a (by omega)]; exact k4 a ha, fun a ha hb => by rw [e3 a hb]; exact k5 a ha hb, fun hK a ha => by rw [e3 a (by omega), e3 0 (by omega)]; exact k6 hK a ha, fun hK => by rw [e3 0 (by omega)]; exact k7 hK⟩
theorem WC_cg {v u : Nat → Nat} (h : ∀ x, x < 49 → u x = v x) (w : WC v) : WC u := by
  have e := h 0 (by omega)
  have w0 := w.1
  refine ⟨by rw [e]; exact w.1, fun i hi => ?_⟩
  rw [e] at hi
  exact okI_cg h (by omega) (w.2 i hi)
theorem npI_cg {v u : Nat → Nat} (h : ∀ x, x < 49 → u x = v x) {i : Nat} (hi : i < 8) (hc : okI v i) {q q' : Nat → Nat} (hq : ∀ a, a < 3 → q a < cB (cK v i) ^ cL v i a) (e : ∀ a, a < 3 → q' a = q a) : npI u i q' = npI v i q := by
  obtain ⟨e1, e2, e3, e4⟩ := cX_cg h hi
  have hs : lsm (cL u i) = lsm (cL v i) := by unfold lsm; rw [e3 0 (by omega), e3 1 (by omega), e3 2 (by omega)]
  obtain ⟨f1, f2, f3, f4, f5⟩ := cmO_cg e3 (cK v i) (cD v i)
  have hI := in0 (v := v) (i := i) (q := q) |>.mpr hq
  have g := gdI hc
  have hI' : inb (bx (cmI v i) 0 0) q' := fun a ha => by rw [e a ha]; exact hI a ha
  have k1 : np (cmI u i) q' (lsm (cL v i)) = np (cmI v i) q' (lsm (cL v i)) := by
    have : cmI u i = cmO (cK v i) (cD v i) (cL u i) := by unfold cmI; rw [e1, e2]
    rw [this]
    exact np_cg g f1 f2 f3 f4 f5 hI' _ (Nat.le_refl _)
  have k2 := np_in g hI _ (Nat.le_refl _)
  have k3 := (np_eq g _ _ (Nat.le_refl _) k2.1 (q := q') (fun a ha => by rw [e a ha]; exact k2.2 a ha)).2
  unfold npI
  rw [hs, k1, k3]
/-! ===== WHAT STANDS: a slice, the shelves ===== -/
/-- point p stands before point q -/
def befP (v : Nat → Nat) (o p q : Nat) : Prop := bef v o p (v (o + 4 + 6 * q + 5)) (v (o + 4 + 6 * q))
/-- a slice of i's is well made -/
def SW (v : Nat → Nat) (i o : Nat) : Prop := v (o + 2) ≤ 300 ∧ v (o + 3) ≤ v (o + 2) ∧ psm v o (v (o + 3)) = v (o + 2) ∧ (∀ k, k < v (o + 3) → 1 ≤ v (o + 1804 + k) ∧ v (o + 1804 + k) ≤ 16) ∧ (∀ p, p < v (o + 2) → v (o + 4 + 6 * p) ≤ 9999 ∧ v (o + 4 + 6 * p + 4) ≤ 1000 ∧ (∀ a, a < 3 → v (o + 4 + 6 * p + (1 + a)) < cB (cK v i) ^ cL v i a) ∧ v (o + 4 + 6 * p + 5) = npI v i fun a => v (o + 4 + 6 * p + (1 + a))) ∧ (∀ p q, p < q → q < v (o + 2) → v (o + 4 + 6 * p) ≠ v (o + 4 + 6 * q) ∧ befP v o p q)
def SV (v : Nat → Nat) : Prop := WC v ∧ ∀ j, j < 4 → v (oS j) ≤ 1 ∧ v (60180 + j) ≤ 6 ∧ (v (oS j) = 1 → v (oS j + 1) < v 0 ∧ ∀ n, n ≤ v (60180 + j) → v (oS j + 2110 * n) = 1 ∧ v (oS j + 2110 * n + 1) = v (oS j + 1) ∧ SW v (v (oS j + 1)) (oS j + 2110 * n))
theorem psm_cg2 {v u : Nat → Nat} {o o2 : Nat} : ∀ k, (∀ j, j < k → v (o + 1804 + j) = u (o2 + 1804 + j)) → psm v o k = psm u o2 k
  | 0, _ => rfl
  | k + 1, h => by
    show psm v o k + v (o + 1804 + k) = psm u o2 k + u (o2 + 1804 + k)
    rw [psm_cg2 k fun j hj => h j (by omega), h k (by omega)]
/-- the same slice elsewhere -/
theorem SW_cg {v u : Nat → Nat} {i o o2 : Nat} (hi : i < 8) (hc : okI v i) (h : ∀ x, x < 49 → u x = v x) (e : ∀ x, x < 2110 → u (o2 + x) = v (o + x)) (s : SW v i o) : SW u i o2 := by
  obtain ⟨s1, s2, s3, s4, s5, s6⟩ := s
  obtain ⟨c1, c2, c3, c4⟩ := cX_cg h hi
  have e2 := e 2 (by omega)
  have e3 := e 3 (by omega)
  have ep : ∀ p t, p < 300 → t < 6 → u (o2 + 4 + 6 * p + t) = v (o + 4 + 6 * p + t) := fun p t hp ht => by
    have := e (4 + 6 * p + t) (by omega)
    rw [show o2 + 4 + 6 * p + t = o2 + (4 + 6 * p + t) by omega, this, show o + 4 + 6 * p + t = o + (4 + 6 * p + t) by omega]
  have ek : ∀ k, k < 300 → u (o2 + 1804 + k) = v (o + 1804 + k) := fun k hk => by
    have := e (1804 + k) (by omega)
    rw [show o2 + 1804 + k = o2 + (1804 + k) by omega, this, show o + 1804 + k = o + (1804 + k) by omega]
  unfold SW
  rw [e2, e3]
  refine ⟨s1, s2, ?_, fun k hk => ?_, fun p hp => ?_, fun p q hpq hq => ?_⟩
  · rw [← s3]
    exact (psm_cg2 _ fun k hk => (ek k (by omega)).symm).symm
  · rw [ek k (by omega)]; exact s4 k hk
  · obtain ⟨a1, a2, a3, a4⟩ := s5 p hp
    have b0 := ep p 0 (by omega) (by omega)
    rw [Nat.add_zero, Nat.add_zero] at b0
    refine ⟨by rw [b0]; exact a1, by rw [ep p 4 (by omega) (by omega)]; exact a2, fun a ha => ?_, ?_⟩
    · rw [ep p (1 + a) (by omega) (by omega), c1, c3 a ha]; exact a3 a ha
    · rw [ep p 5 (by omega) (by omega), a4]
      exact (npI_cg h hi hc a3 fun a ha => ep p (1 + a) (by omega) (by omega)).symm
  · have b0 := ep p 0 (by omega) (by omega)
    have b1 := ep q 0 (by omega) (by omega)
    rw [Nat.add_zero, Nat.add_zero] at b0 b1
    unfold befP bef
    rw [b0, b1, ep p 5 (by omega) (by omega), ep q 5 (by omega) (by omega)]
    exact s6 p q hpq hq
