/-! ===== WHAT STANDS: a slice with a point less is well made ===== -/
theorem psm_in {v : Nat → Nat} {o k : Nat} : ∀ n, k < n → psm v o k + v (o + 1804 + k) ≤ psm v o n
  | 0, e => by omega
  | n + 1, e => by
    show _ ≤ psm v o n + v (o + 1804 + n)
    by_cases z : k = n
    · subst z; omega
    · have := psm_in (v := v) (o := o) (k := k) n (by omega); omega
theorem psm_pgG_t {v : Nat → Nat} {o k : Nat} (hk : k < v (o + 3)) : psm (pgG v o k) o (v (o + 3) - 1) + v (o + 1804 + k) = psm v o (v (o + 3)) := by
  have e := psm_pgG (v := v) (o := o) (k := k) (v (o + 3) - 1) (Nat.le_refl _)
  have i := psm_in (v := v) (o := o) (v (o + 3)) hk
  obtain ⟨P, hP⟩ : ∃ P, v (o + 3) = P + 1 := ⟨v (o + 3) - 1, by omega⟩
  rw [hP] at e i hk ⊢
  rw [show P + 1 - 1 = P by omega] at e ⊢
  rw [e]
  by_cases q : P ≤ k
  · rw [if_pos q, show k = P by omega]; rfl
  · rw [if_neg q]; omega
theorem psm_gsV {v : Nat → Nat} {o p g : Nat} (hm : v (o + 2) ≤ 300) (hP : v (o + 3) ≤ 300) (hp : p < v (o + 2)) (hg : g < v (o + 3)) (h1 : 1 ≤ v (o + 1804 + g)) : psm (gsV v o p g) o (gsV v o p g (o + 3)) + 1 = psm v o (v (o + 3)) := by
  have lo : ∀ x, x < o + 4 ∨ o + 1804 ≤ x → gsY v (o + 4 + 6 * p) (o + 4 + 6 * v (o + 2) - 6) x = v x := fun x hx => by
    unfold gsY; rw [if_neg (by omega)]
  have u3 : gs1 v o p g (o + 3) = v (o + 3) := by unfold gs1; rw [va_up_ne _ _ (by omega), va_up_ne _ _ (by omega), lo _ (by omega)]
  have ut : psm (gs1 v o p g) o (v (o + 3)) + 1 = psm v o (v (o + 3)) := by
    have e := psm_set (v := va_up (gsY v (o + 4 + 6 * p) (o + 4 + 6 * v (o + 2) - 6)) (o + 2) (v (o + 2) - 1)) (o := o) (g := g) (x := v (o + 1804 + g) - 1) (v (o + 3))
    rw [if_pos hg, if_pos hg, va_up_ne _ _ (by omega), lo _ (by omega), psm_cg (v := va_up (gsY v (o + 4 + 6 * p) (o + 4 + 6 * v (o + 2) - 6)) (o + 2) (v (o + 2) - 1)) (u := v) (v (o + 3)) (fun j hj => by rw [va_up_ne _ _ (by omega), lo _ (by omega)])] at e
    unfold gs1
    omega
  unfold gsV
  generalize gs1 v o p g = u at *
  rw [← u3] at ut hg ⊢
  unfold gsT
  by_cases c0 : u (o + 1804 + g) = 0
  · rw [if_pos c0, pgG_3]
    have := psm_pgG_t hg
    omega
  rw [if_neg c0]
  by_cases c1 : g + 1 < u (o + 3) ∧ u (o + 1804 + g) + u (o + 1804 + (g + 1)) ≤ 10
  · rw [if_pos c1, pgG_3]
    have e3 : va_up u (o + 1804 + g) (u (o + 1804 + g) + u (o + 1804 + (g + 1))) (o + 3) = u (o + 3) := va_up_ne _ _ (by omega)
    have a1 := psm_pgG_t (v := va_up u (o + 1804 + g) (u (o + 1804 + g) + u (o + 1804 + (g + 1)))) (o := o) (k := g + 1) (by rw [e3]; exact c1.1)
    have a2 := psm_set (v := u) (o := o) (g := g) (x := u (o + 1804 + g) + u (o + 1804 + (g + 1))) (u (o + 3))
    rw [if_pos hg, if_pos hg] at a2
    rw [e3, va_up_ne _ _ (show o + 1804 + (g + 1) ≠ o + 1804 + g by omega)] at a1
    rw [e3]
    omega
  rw [if_neg c1]
  by_cases c2 : 0 < g ∧ u (o + 1804 + (g - 1)) + u (o + 1804 + g) ≤ 10
  · rw [if_pos c2, pgG_3, show o + 1804 + g - 1 = o + 1804 + (g - 1) by omega]
    have e3 : va_up u (o + 1804 + (g - 1)) (u (o + 1804 + (g - 1)) + u (o + 1804 + g)) (o + 3) = u (o + 3) := va_up_ne _ _ (by omega)
    have a1 := psm_pgG_t (v := va_up u (o + 1804 + (g - 1)) (u (o + 1804 + (g - 1)) + u (o + 1804 + g))) (o := o) (k := g) (by rw [e3]; exact hg)
    have a2 := psm_set (v := u) (o := o) (g := g - 1) (x := u (o + 1804 + (g - 1)) + u (o + 1804 + g)) (u (o + 3))
    rw [if_pos (by omega), if_pos (by omega)] at a2
    rw [e3, va_up_ne _ _ (show o + 1804 + g ≠ o + 1804 + (g - 1) by omega)] at a1
    rw [e3]
    omega
  · rw [if_neg c2]; exact ut
theorem SW_gs {v : Nat → Nat} {i o p g : Nat} (hi : i < 8) (hc : okI v i) (s : SW v i o) (ho : 49 ≤ o) (hp : p < v (o + 2)) (hg : g < v (o + 3)) : SW (gsV v o p g) i o := by
  obtain ⟨s1, s2, s3, s4, s5, s6⟩ := s
  obtain ⟨a2, a3, ao, ap, ak⟩ := gsV_a (p := p) (g := g) s1 (by omega) hp hg
  have hT := psm_gsV (p := p) (g := g) s1 (by omega) hp hg (s4 g hg).1
  have cg : ∀ x, x < 49 → gsV v o p g x = v x := fun x hx => ao x (by omega)
  obtain ⟨x1, x2, x3, x4⟩ := cX_cg cg hi
  generalize gsV v o p g = u at *
  have hS : ∀ k, k < v (o + 3) → gsS v o g k ≤ 16 ∧ (k ≠ g → 1 ≤ gsS v o g k) := fun k hk => by
    have := s4 k hk
    unfold gsS
    by_cases e : k = g
    · subst e; rw [if_pos rfl]; omega
    · rw [if_neg e]; omega
  have hK : ∀ k, k < gsP v o g → 1 ≤ gsK v o g k ∧ gsK v o g k ≤ 16 := fun k hk => by
    have hw : gsW v o g = if gsS v o g g = 0 then 1 else if g + 1 < v (o + 3) ∧ gsS v o g g + gsS v o g (g + 1) ≤ 10 then 2 else if 0 < g ∧ gsS v o g (g - 1) + gsS v o g g ≤ 10 then 3 else 0 := rfl
    unfold gsP at hk
    unfold gsK
    by_cases c0 : gsS v o g g = 0
    · rw [if_pos c0] at hw
      rw [hw] at hk ⊢
      simp only [show ¬ (1 = 0) by omega, if_false, if_true] at hk ⊢
      by_cases q : k < g
      · rw [if_pos q]; have := hS k (by omega); omega
      · rw [if_neg q]; have := hS (k + 1) (by omega); omega
    rw [if_neg c0] at hw
    by_cases c1 : g + 1 < v (o + 3) ∧ gsS v o g g + gsS v o g (g + 1) ≤ 10
    · rw [if_pos c1] at hw
      rw [hw] at hk ⊢
      simp only [show ¬ (2 = 0) by omega, show ¬ (2 = 1) by omega, if_false, if_true] at hk ⊢
      rcases Nat.lt_trichotomy k g with q | q | q
      · rw [if_pos q]; have := hS k (by omega); omega
      · rw [if_neg (by omega), if_pos q]; omega
      · rw [if_neg (by omega), if_neg (by omega)]; have := hS (k + 1) (by omega); omega
    rw [if_neg c1] at hw
    by_cases c2 : 0 < g ∧ gsS v o g (g - 1) + gsS v o g g ≤ 10
    · rw [if_pos c2] at hw
      rw [hw] at hk ⊢
      simp only [show ¬ (3 = 0) by omega, show ¬ (3 = 1) by omega, show ¬ (3 = 2) by omega, if_false] at hk ⊢
      rcases Nat.lt_trichotomy k (g - 1) with q | q | q
      · rw [if_pos q]; have := hS k (by omega); omega
      · rw [if_neg (by omega), if_pos q]; omega
      · rw [if_neg (by omega), if_neg (by omega)]; have := hS (k + 1) (by omega); omega
    · rw [if_neg c2] at hw
      rw [hw] at hk ⊢
      simp only [if_true] at hk ⊢
      have := hS k hk
      by_cases e : k = g
      · rw [e] at this ⊢; omega
      · omega
  have z0 : ∀ y, u (o + 4 + 6 * y) = u (o + 4 + 6 * y + 0) := fun y => rfl
  have hle : ∀ n, n ≤ gsP v o g → n ≤ psm u o n := by
    intro n
    induction n with
    | zero => intro _; omega
    | succ n ih =>
      intro hn
      have := ih (by omega)
      have := hK n (by omega)
      show n + 1 ≤ psm u o n + u (o + 1804 + n)
      rw [ak n (by omega)]
      omega
  have h3 := hle _ (Nat.le_refl _)
  rw [a3] at hT
  unfold SW
  rw [a2, a3]
  refine ⟨by omega, by omega, by omega, fun k hk => by rw [ak k hk]; exact hK k hk, fun y hy => ?_, fun y z hyz hz => ?_⟩
  · obtain ⟨y', hy', e⟩ : ∃ y', y' < v (o + 2) ∧ ∀ t, t < 6 → u (o + 4 + 6 * y + t) = v (o + 4 + 6 * y' + t) := by
      by_cases q : y < p
      · exact ⟨y, by omega, fun t ht => by rw [ap y t hy ht, if_pos q]⟩
      · exact ⟨y + 1, by omega, fun t ht => by rw [ap y t hy ht, if_neg q]⟩
    obtain ⟨d1, d2, d3, d4⟩ := s5 y' hy'
    refine ⟨by rw [z0, e 0 (by omega)]; exact d1, by rw [e 4 (by omega)]; exact d2, fun a ha => by rw [e (1 + a) (by omega), x1, x3 a ha]; exact d3 a ha, ?_⟩
    rw [e 5 (by omega), d4]
    exact (npI_cg cg hi hc d3 fun a ha => e (1 + a) (by omega)).symm
  · have n5 : ∀ y, y < v (o + 2) - 1 → ∃ y', y' < v (o + 2) ∧ y' = (if y < p then y else y + 1) ∧ u (o + 4 + 6 * y) = v (o + 4 + 6 * y') ∧ u (o + 4 + 6 * y + 5) = v (o + 4 + 6 * y' + 5) := fun y hy => by
      by_cases q : y < p
      · exact ⟨y, by omega, by rw [if_pos q], by rw [z0, ap y 0 hy (by omega), if_pos q]; rfl, by rw [ap y 5 hy (by omega), if_pos q]⟩
      · exact ⟨y + 1, by omega, by rw [if_neg q], by rw [z0, ap y 0 hy (by omega), if_neg q]; rfl, by rw [ap y 5 hy (by omega), if_neg q]⟩
    obtain ⟨y1, k1, k2, k3, k4⟩ := n5 y (by omega)
    obtain ⟨z1, l1, l2, l3, l4⟩ := n5 z hz
    unfold befP bef
    rw [k3, k4, l3, l4]
    refine s6 y1 z1 ?_ l1
    rw [k2, l2]
    by_cases q : z < p
    · rw [if_pos (by omega), if_pos q]; exact hyz
    · rw [if_neg q]
      by_cases q2 : y < p
      · rw [if_pos q2]; omega
      · rw [if_neg q2]; omega
/-! the past -/
theorem kpU_a {v : Nat → Nat} {j : Nat} (hj : j < 4) : (∀ x, x < 1100 → kpU v j x = v x) ∧ (∀ x, x < 2110 → kpU v j (oS j + x) = v (oS j + x)) ∧ (∀ n x, 1 ≤ n → n ≤ 6 → x < 2110 → kpU v j (oS j + 2110 * n + x) = v (oS j + 2110 * (n - 1) + x)) ∧ (∀ k x, k < 4 → k ≠ j → x < 14770 → kpU v j (oS k + x) = v (oS k + x)) ∧ kpU v j (60180 + j) = (if 6 ≤ v (60180 + j) then v (60180 + j) else v (60180 + j) + 1) ∧ ∀ k, k < 4 → k ≠ j → kpU v j (60180 + k) = v (60180 + k) := by
  have ob := oS_b hj
  unfold kpU
  refine ⟨fun x hx => ?_, fun x hx => ?_, fun n x h1 h6 hx => ?_, fun k x hk hne hx => ?_, va_up_self _ _ _, fun k hk hne => ?_⟩
  · rw [va_up_ne _ _ (by omega)]; unfold kpy; rw [if_neg (by omega)]
  · rw [va_up_ne _ _ (by omega)]; unfold kpy; rw [if_neg (by omega)]
  · rw [va_up_ne _ _ (by omega)]; unfold kpy; rw [if_pos (by omega), show oS j + 2110 * n + x - 2110 = oS j + 2110 * (n - 1) + x by omega]
  · have := oS_b hk
    rw [va_up_ne _ _ (by omega)]; unfold kpy; rw [if_neg (by unfold oS at *; omega)]
  · rw [va_up_ne _ _ (by omega)]; unfold kpy; rw [if_neg (by omega)]
theorem kpD_a {v : Nat → Nat} {j : Nat} (hj : j < 4) : (∀ x, x < 1100 → kpD v j x = v x) ∧ (∀ n x, n < 6 → x < 2110 → kpD v j (oS j + 2110 * n + x) = v (oS j + 2110 * (n + 1) + x)) ∧ (∀ k x, k < 4 → k ≠ j → x < 14770 → kpD v j (oS k + x) = v (oS k + x)) ∧ kpD v j (60180 + j) = v (60180 + j) - 1 ∧ ∀ k, k < 4 → k ≠ j → kpD v j (60180 + k) = v (60180 + k) := by
  have ob := oS_b hj
  unfold kpD
  refine ⟨fun x hx => ?_, fun n x h6 hx => ?_, fun k x hk hne hx => ?_, va_up_self _ _ _, fun k hk hne => ?_⟩
  · rw [va_up_ne _ _ (by omega)]; unfold kpz; rw [if_neg (by omega)]
  · rw [va_up_ne _ _ (by omega)]; unfold kpz; rw [if_pos (by omega), show oS j + 2110 * n + x + 2110 = oS j + 2110 * (n + 1) + x by omega]
  · have := oS_b hk
    rw [va_up_ne _ _ (by omega)]; unfold kpz; rw [if_neg (by unfold oS at *; omega)]
  · rw [va_up_ne _ _ (by omega)]; unfold kpz; rw [if_neg (by omega)]
