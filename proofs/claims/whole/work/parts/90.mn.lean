/-! ===== sums of pages ===== -/
theorem psm_cg {v u : Nat → Nat} {o : Nat} : ∀ k, (∀ j, j < k → v (o + 1804 + j) = u (o + 1804 + j)) → psm v o k = psm u o k
  | 0, _ => rfl
  | k + 1, h => by
    show psm v o k + v (o + 1804 + k) = psm u o k + u (o + 1804 + k)
    rw [psm_cg k fun j hj => h j (by omega), h k (by omega)]
theorem psm_set {v : Nat → Nat} {o g x : Nat} : ∀ k, psm (va_up v (o + 1804 + g) x) o k + (if g < k then v (o + 1804 + g) else 0) = psm v o k + (if g < k then x else 0)
  | 0 => by rw [if_neg (by omega), if_neg (by omega)]; rfl
  | k + 1 => by
    have ih := psm_set (v := v) (o := o) (g := g) (x := x) k
    show psm (va_up v (o + 1804 + g) x) o k + va_up v (o + 1804 + g) x (o + 1804 + k) + _ = psm v o k + v (o + 1804 + k) + _
    rcases Nat.lt_trichotomy g k with q | q | q
    · rw [if_pos q, if_pos q] at ih
      rw [if_pos (by omega), if_pos (by omega), va_up_ne _ _ (by omega)]
      omega
    · subst q
      rw [if_neg (by omega), if_neg (by omega)] at ih
      rw [if_pos (by omega), if_pos (by omega), va_up_self]
      omega
    · rw [if_neg (by omega), if_neg (by omega)] at ih
      rw [if_neg (by omega), if_neg (by omega), va_up_ne _ _ (by omega)]
      omega
theorem pgC_at {v : Nat → Nat} {o k n j : Nat} (hj : j ≤ v (o + 3)) : pgC v o k n (o + 1804 + j) = if j < k then v (o + 1804 + j) else if j = k then n else v (o + 1804 + (j - 1)) := by
  unfold pgC
  rw [va_up_ne _ _ (by omega)]
  by_cases e : j = k
  · subst e
    rw [va_up_self, if_neg (by omega), if_pos rfl]
  · rw [va_up_ne _ _ (by omega)]
    unfold pcY
    by_cases q : j < k
    · rw [if_neg (by omega), if_pos q]
    · rw [if_pos (by omega), if_neg q, if_neg e, show o + 1804 + j - 1 = o + 1804 + (j - 1) by omega]
theorem psm_pgC {v : Nat → Nat} {o k n : Nat} : ∀ j, j ≤ v (o + 3) + 1 → psm (pgC v o k n) o j = if j ≤ k then psm v o j else psm v o (j - 1) + n
  | 0, _ => by rw [if_pos (Nat.zero_le k)]; rfl
  | j + 1, h => by
    have ih := psm_pgC (v := v) (o := o) (k := k) (n := n) j (by omega)
    show psm (pgC v o k n) o j + pgC v o k n (o + 1804 + j) = _
    rw [ih, pgC_at (by omega)]
    rcases Nat.lt_trichotomy j k with q | q | q
    · rw [if_pos (by omega), if_pos q, if_pos (by omega)]; rfl
    · rw [if_pos (by omega), if_neg (by omega), if_pos q, if_neg (by omega), show j + 1 - 1 = j by omega]
    · obtain ⟨i, rfl⟩ : ∃ i, j = i + 1 := ⟨j - 1, by omega⟩
      rw [if_neg (by omega), if_neg (by omega), if_neg (by omega), if_neg (by omega), show i + 1 + 1 - 1 = i + 1 by omega, show i + 1 - 1 = i by omega]
      show psm v o i + n + v (o + 1804 + i) = psm v o i + v (o + 1804 + i) + n
      omega
