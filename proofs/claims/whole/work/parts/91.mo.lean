/-! ===== a point more: the sum of pages ===== -/
theorem psm_cmC {v : Nat → Nat} {o a g : Nat} {c : Nat → Nat} (ha : o + 4 ≤ a ∧ a + 6 ≤ o + 1804) {P : Nat} (hg : g < P) : psm (cmC v o a g c) o P = psm v o P + 1 := by
  have e1 : psm (va_up (w6 v a c) (o + 2) (v (o + 2) + 1)) o P = psm v o P := psm_cg P fun j _ => by
    rw [va_up_ne _ _ (by omega), w6_o v c (by omega)]
  have e2 := psm_set (v := va_up (w6 v a c) (o + 2) (v (o + 2) + 1)) (o := o) (g := g) (x := v (o + 1804 + g) + 1) P
  rw [if_pos hg, if_pos hg, e1, va_up_ne _ _ (by omega), w6_o v c (by omega)] at e2
  unfold cmC
  omega
theorem cmC_3 {v : Nat → Nat} {o a g : Nat} {c : Nat → Nat} (ha : o + 4 ≤ a ∧ a + 6 ≤ o + 1804) : cmC v o a g c (o + 3) = v (o + 3) := by
  unfold cmC
  rw [va_up_ne _ _ (by omega), va_up_ne _ _ (by omega), w6_o v c (by omega)]
theorem psm_cmT {v : Nat → Nat} {o a g : Nat} {c : Nat → Nat} (ha : o + 4 ≤ a ∧ a + 6 ≤ o + 1804) (hg : g < v (o + 3)) : psm (cmT v o a g c) o (cmT v o a g c (o + 3)) = psm v o (v (o + 3)) + 1 ∧ (cmT v o a g c (o + 3) = v (o + 3) ∨ cmT v o a g c (o + 3) = v (o + 3) + 1) := by
  have k := psm_cmC (v := v) (c := c) ha hg
  unfold cmT
  by_cases e : v (o + 1804 + g) + 1 = 17
  · rw [if_pos e]
    have e3 : va_up (cmC v o a g c) (o + 1804 + g) 9 (o + 3) = v (o + 3) := by rw [va_up_ne _ _ (by omega), cmC_3 ha]
    have e4 : pgC (va_up (cmC v o a g c) (o + 1804 + g) 9) o (g + 1) 8 (o + 3) = v (o + 3) + 1 := by
      unfold pgC; rw [va_up_self, e3]
    have e5 := psm_set (v := cmC v o a g c) (o := o) (g := g) (x := 9) (v (o + 3))
    rw [if_pos hg, if_pos hg, k, show cmC v o a g c (o + 1804 + g) = v (o + 1804 + g) + 1 from va_up_self _ _ _] at e5
    refine ⟨?_, Or.inr e4⟩
    rw [e4, psm_pgC _ (by rw [e3]; omega), if_neg (by omega), show v (o + 3) + 1 - 1 = v (o + 3) by omega]
    omega
  · rw [if_neg e, cmC_3 ha]
    exact ⟨k, Or.inl rfl⟩
