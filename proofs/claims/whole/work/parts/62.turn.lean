/-! ===== TURNING ===== -/
def tAx (d r t : Nat) : Nat := d - 1 - (d - 1 - r + t + 1) % d
theorem tuA_eq (d r s : Nat) : tuA d r s = tAx d r (s / 8 % 4) := rfl
def vT (d r s : Nat) : Prop := s < 256 ∧ s / 8 % 4 < d ∧ s / 32 < 2 ^ d ∧ s % 8 < 2 ^ r
def tuP (d r s v : Nat) : Bool := decide (tuT d r s v < 2) && (decide (tuT d r s (tuT d r s v) = v) && (decide (tuN d r s v < 256) && (decide (tuN d r s v / 8 % 4 < d) && (decide (tuN d r s v / 32 < 2 ^ d) && (decide (tuN d r s v % 8 < 2 ^ ((r + 1) % d)) && (!decide (r < d - 1) || decide (tuN d r s v / 8 % 4 = s / 8 % 4)))))))
def tuQ (d r s v : Nat) : Bool := !(decide (s / 8 % 4 < d) && (decide (s / 32 < 2 ^ d) && decide (s % 8 < 2 ^ r))) || tuP d r s v
theorem tu_f2 : ∀ r, r < 2 → ∀ s, s < 256 → ∀ v, v < 2 → tuQ 2 r s v = true := by decide +kernel
theorem tu_f3 : ∀ r, r < 3 → ∀ s, s < 256 → ∀ v, v < 2 → tuQ 3 r s v = true := by decide +kernel
theorem tAx_2 : ∀ t, t < 2 → (∀ r, r < 2 → tAx 2 r t < 2 ∧ ∀ i, i < r → tAx 2 i t ≠ tAx 2 r t) ∧ ∀ a, a < 2 → ∃ i, i < 2 ∧ tAx 2 i t = a := by decide +kernel
theorem tAx_3 : ∀ t, t < 3 → (∀ r, r < 3 → tAx 3 r t < 3 ∧ ∀ i, i < r → tAx 3 i t ≠ tAx 3 r t) ∧ ∀ a, a < 3 → ∃ i, i < 3 ∧ tAx 3 i t = a := by decide +kernel
theorem tu_f {d r s v : Nat} (hd : d = 2 ∨ d = 3) (hr : r < d) (h : vT d r s) (hv : v < 2) : tuT d r s v < 2 ∧ tuT d r s (tuT d r s v) = v ∧ vT d ((r + 1) % d) (tuN d r s v) ∧ (r < d - 1 → tuN d r s v / 8 % 4 = s / 8 % 4) := by
  obtain ⟨h0, h1, h2, h3⟩ := h
  have hq : tuQ d r s v = true := by
    rcases hd with rfl | rfl
    · exact tu_f2 r hr s h0 v hv
    · exact tu_f3 r hr s h0 v hv
  unfold tuQ tuP at hq
  simp only [h1, h2, h3, decide_true, Bool.and_self, Bool.not_true, Bool.false_or, Bool.and_eq_true, decide_eq_true_eq, Bool.or_eq_true, Bool.not_eq_true', decide_eq_false_iff_not] at hq
  obtain ⟨a1, a2, a3, a4, a5, a6, a7⟩ := hq
  exact ⟨a1, a2, ⟨a3, a4, a5, a6⟩, fun h => a7.resolve_left (fun q => q h)⟩
theorem tAx_f {d t : Nat} (hd : d = 2 ∨ d = 3) (ht : t < d) : (∀ r, r < d → tAx d r t < d ∧ ∀ i, i < r → tAx d i t ≠ tAx d r t) ∧ ∀ a, a < d → ∃ i, i < d ∧ tAx d i t = a := by
  rcases hd with rfl | rfl
  · exact tAx_2 t ht
  · exact tAx_3 t ht
theorem md_s {d k : Nat} (hd : d = 2 ∨ d = 3) : (k % d + 1 < d → (k + 1) % d = k % d + 1 ∧ (k + 1) / d = k / d) ∧ (k % d + 1 = d → (k + 1) % d = 0 ∧ (k + 1) / d = k / d + 1) ∧ k % d < d ∧ (k % d + 1) % d = (k + 1) % d := by
  rcases hd with rfl | rfl <;> omega
theorem gd_turn {d : Nat} {L : Nat → Nat} (h : okC 2 d L) : Gd (cmO 2 d L) (L 0 + L 1 + L 2) ∧ ∀ k p, k ≤ L 0 + L 1 + L 2 → p < 2 ^ k → vT d (k % d) (bx (cmO 2 d L) k p).2.2 := by
  obtain ⟨-, hd, h20, h1, h0, hsame, -⟩ := h
  have hsame := hsame (by omega)
  have hD : L 0 + L 1 + L 2 = d * L 0 := by
    rcases hd with rfl | rfl
    · rw [hsame 1 (by omega), h0 2 (by omega) (by omega)]
      omega
    · rw [hsame 1 (by omega), hsame 2 (by omega)]
      omega
  have hc : cmO 2 d L = (2, fun k s => tuA d (k % d) s, fun k s v => tuT d (k % d) s v, fun k s v => tuN d (k % d) s v, fun a => 2 ^ L a) := by
    unfold cmO
    rw [if_pos rfl]
  rw [hD]
  generalize cmO 2 d L = c at hc
  subst hc
  have hd0 : 0 < d := by omega
  have inv : ∀ k, k ≤ d * L 0 → ∀ p, p < 2 ^ k → vT d (k % d) (bx (2, fun k s => tuA d (k % d) s, fun k s v => tuT d (k % d) s v, fun k s v => tuN d (k % d) s v, fun a => 2 ^ L a) k p).2.2 ∧ ∀ a, a < 3 → (bx (2, fun k s => tuA d (k % d) s, fun k s v => tuT d (k % d) s v, fun k s v => tuN d (k % d) s v, fun a => 2 ^ L a) k p).2.1 a = if a < d then (if ∃ i, i < k % d ∧ tAx d i ((bx (2, fun k s => tuA d (k % d) s, fun k s v => tuT d (k % d) s v, fun k s v => tuN d (k % d) s v, fun a => 2 ^ L a) k p).2.2 / 8 % 4) = a then 2 ^ (L 0 - k / d - 1) else 2 ^ (L 0 - k / d)) else 1 := by
    intro k
    induction k with
    | zero =>
      intro _ p _
      rw [Nat.zero_mod, Nat.zero_div]
      refine ⟨⟨show 0 < 256 by omega, ?_, ?_, show 0 % 8 < 2 ^ 0 by decide⟩, fun a ha => ?_⟩
      · show 0 / 8 % 4 < d
        omega
      · show 0 / 32 < 2 ^ d
        rw [Nat.zero_div]
        exact Nat.pow_pos (by omega)
      · show 2 ^ L a = _
        by_cases e : a < d
        · rw [if_pos e, if_neg (by rintro ⟨i, hi, -⟩; omega), hsame a e]
          try rfl
        · rw [if_neg e, h0 a (by omega) ha]
          try rfl
    | succ k ih =>
      intro hk p hp
      have hp2 : p / 2 < 2 ^ k := by
        rw [Nat.pow_succ] at hp
        omega
      obtain ⟨i1, i2⟩ := ih (by omega) (p / 2) hp2
      have hv : p % 2 < 2 := Nat.mod_lt _ (by omega)
      obtain ⟨m1, m2, m3, m4⟩ := md_s (k := k) hd
      obtain ⟨f1, f2, f3, f4⟩ := tu_f hd m3 i1 hv
      have hj : k / d < L 0 := by
        rw [Nat.div_lt_iff_lt_mul hd0, Nat.mul_comm]
        omega
      generalize hb : bx (2, fun k s => tuA d (k % d) s, fun k s v => tuT d (k % d) s v, fun k s v => tuN d (k % d) s v, fun a => 2 ^ L a) k (p / 2) = b at i1 i2 f1 f2 f3 f4
      have hst : bx (2, fun k s => tuA d (k % d) s, fun k s v => tuT d (k % d) s v, fun k s v => tuN d (k % d) s v, fun a => 2 ^ L a) (k + 1) p = bs (2, fun k s => tuA d (k % d) s, fun k s v => tuT d (k % d) s v, fun k s v => tuN d (k % d) s v, fun a => 2 ^ L a) k b (p % 2) := by
        rw [← hb]
        rfl
      rw [hst]
      have ht := i1.2.1
      obtain ⟨x1, x2⟩ := tAx_f hd ht
      obtain ⟨x3, x4⟩ := x1 (k % d) m3
      refine ⟨?_, fun a ha => ?_⟩
      · show vT d ((k + 1) % d) (tuN d (k % d) b.2.2 (p % 2))
        rw [← m4]
        exact f3
      · show va_up b.2.1 (tuA d (k % d) b.2.2) (b.2.1 (tuA d (k % d) b.2.2) / 2) a = if a < d then (if ∃ i, i < (k + 1) % d ∧ tAx d i (tuN d (k % d) b.2.2 (p % 2) / 8 % 4) = a then 2 ^ (L 0 - (k + 1) / d - 1) else 2 ^ (L 0 - (k + 1) / d)) else 1
        rw [tuA_eq]
        have hcut : b.2.1 (tAx d (k % d) (b.2.2 / 8 % 4)) / 2 = 2 ^ (L 0 - k / d - 1) := by
          rw [i2 _ (by omega), if_pos x3, if_neg (by rintro ⟨i, hi, he⟩; exact x4 i hi he), show L 0 - k / d = (L 0 - k / d - 1) + 1 by omega, Nat.pow_succ, Nat.mul_div_cancel _ (by omega)]
          rfl
        by_cases hr : k % d + 1 < d
        · obtain ⟨e1, e2⟩ := m1 hr
          rw [e1, e2, f4 (by omega)]
          by_cases e : a = tAx d (k % d) (b.2.2 / 8 % 4)
          · rw [e, va_up_self, hcut, if_pos x3, if_pos ⟨k % d, by omega, rfl⟩]
          · rw [va_up_ne _ _ e, i2 a ha]
            by_cases e3 : ∃ i, i < k % d ∧ tAx d i (b.2.2 / 8 % 4) = a
            · have e4 : ∃ i, i < k % d + 1 ∧ tAx d i (b.2.2 / 8 % 4) = a := by
                obtain ⟨i, hi, he⟩ := e3
                exact ⟨i, by omega, he⟩
              rw [if_pos e3, if_pos e4]
            · have e4 : ¬ ∃ i, i < k % d + 1 ∧ tAx d i (b.2.2 / 8 % 4) = a := by
                rintro ⟨i, hi, he⟩
                by_cases e5 : i = k % d
                · subst e5
                  exact e he.symm
                · exact e3 ⟨i, by omega, he⟩
              rw [if_neg e3, if_neg e4]
        · obtain ⟨e1, e2⟩ := m2 (by omega)
          rw [e1, e2, if_neg (show ¬ ∃ i, i < 0 ∧ tAx d i (tuN d (k % d) b.2.2 (p % 2) / 8 % 4) = a by rintro ⟨i, hi, -⟩; omega)]
          rw [show L 0 - (k / d + 1) = L 0 - k / d - 1 by omega]
          by_cases e : a = tAx d (k % d) (b.2.2 / 8 % 4)
          · rw [e, va_up_self, hcut, if_pos x3]
          · rw [va_up_ne _ _ e, i2 a ha]
            by_cases e6 : a < d
            · obtain ⟨i, hi, he⟩ := x2 a e6
              have e3 : ∃ i, i < k % d ∧ tAx d i (b.2.2 / 8 % 4) = a := by
                refine ⟨i, ?_, he⟩
                by_cases e5 : i = k % d
                · subst e5
                  exact absurd he.symm e
                · omega
              rw [if_pos e6, if_pos e6, if_pos e3]
            · rw [if_neg e6, if_neg e6]
  refine ⟨⟨Nat.le_refl _, fun k p hk hp => ?_, fun p hp a ha => ?_⟩, fun k p hk hp => (inv k hk p hp).1⟩
  · obtain ⟨i1, i2⟩ := inv k (by omega) p hp
    obtain ⟨m1, m2, m3, m4⟩ := md_s (k := k) hd
    obtain ⟨x1, x2⟩ := tAx_f hd i1.2.1
    obtain ⟨x3, x4⟩ := x1 (k % d) m3
    have hj : k / d < L 0 := by
      rw [Nat.div_lt_iff_lt_mul hd0, Nat.mul_comm]
      omega
    have hx3 := Nat.lt_of_lt_of_le x3 (show d ≤ 3 by omega)
    have e1 := i2 _ hx3
    rw [if_pos x3, if_neg (by rintro ⟨i, hi, he⟩; exact x4 i hi he), show L 0 - k / d = (L 0 - k / d - 1) + 1 by omega, Nat.pow_succ] at e1
    refine ⟨hx3, ?_, ?_, fun v hv => ?_⟩
    · show 0 < (bx _ k p).2.1 (tAx d (k % d) _) / 2
      rw [e1, Nat.mul_div_cancel _ (by omega)]
      exact Nat.pow_pos (by omega)
    · show (bx _ k p).2.1 (tAx d (k % d) _) = (bx _ k p).2.1 (tAx d (k % d) _) / 2 * 2
      rw [e1, Nat.mul_div_cancel _ (by omega)]
    · obtain ⟨f1, f2, -, -⟩ := tu_f hd m3 i1 hv
      exact ⟨f1, f2⟩
  · obtain ⟨i1, i2⟩ := inv (d * L 0) (Nat.le_refl _) p hp
    rw [i2 a ha, Nat.mul_mod_right, Nat.mul_div_cancel_left _ hd0]
    by_cases e : a < d
    · rw [if_pos e, if_neg (by rintro ⟨i, hi, -⟩; omega), Nat.sub_self, Nat.pow_zero]
    · rw [if_neg e]
theorem gd_all {K d : Nat} {L : Nat → Nat} (h : okC K d L) : Gd (cmO K d L) (L 0 + L 1 + L 2) := by
  by_cases e : K = 2
  · subst e
    exact (gd_turn h).1
  · exact gd_plain h e
