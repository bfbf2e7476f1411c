/-! ===== WHAT STANDS: a point comes ===== -/
def cmP (v : Nat → Nat) (o : Nat) : Nat := if v (o + 2) = 0 then 1 else v (o + 3)
def cmZ (v : Nat → Nat) (o k : Nat) : Nat := if v (o + 2) = 0 then 0 else v (o + 1804 + k)
theorem w6_at (v : Nat → Nat) (a : Nat) (c : Nat → Nat) {t : Nat} (h : t < 6) : w6 v a c (a + t) = c t := by
  unfold w6
  rcases (show t = 0 ∨ t = 1 ∨ t = 2 ∨ t = 3 ∨ t = 4 ∨ t = 5 by omega) with rfl | rfl | rfl | rfl | rfl | rfl
  · rw [va_up_ne _ _ (by omega), va_up_ne _ _ (by omega), va_up_ne _ _ (by omega), va_up_ne _ _ (by omega), va_up_ne _ _ (by omega)]
    exact va_up_self _ _ _
  · rw [va_up_ne _ _ (by omega), va_up_ne _ _ (by omega), va_up_ne _ _ (by omega), va_up_ne _ _ (by omega), va_up_self]
  · rw [va_up_ne _ _ (by omega), va_up_ne _ _ (by omega), va_up_ne _ _ (by omega), va_up_self]
  · rw [va_up_ne _ _ (by omega), va_up_ne _ _ (by omega), va_up_self]
  · rw [va_up_ne _ _ (by omega), va_up_self]
  · rw [va_up_self]
theorem pgC_3 (v : Nat → Nat) (o k n : Nat) : pgC v o k n (o + 3) = v (o + 3) + 1 := va_up_self _ _ _
theorem pgC_o {v : Nat → Nat} {o k n x : Nat} (hk : k ≤ v (o + 3)) (hP : v (o + 3) ≤ 305) (h : (x < o + 1804 ∧ x ≠ o + 3) ∨ o + 2110 ≤ x) : pgC v o k n x = v x := by
  unfold pgC
  rw [va_up_ne _ _ (by omega), va_up_ne _ _ (by omega)]
  unfold pcY
  rw [if_neg (by omega)]
/-- cm1: pages -/
theorem cm1_a {v : Nat → Nat} {o : Nat} (h0 : v (o + 2) = 0 → v (o + 3) = 0) (hP : v (o + 3) ≤ 300) : cm1 v o (o + 3) = cmP v o ∧ (∀ k, k < cmP v o → cm1 v o (o + 1804 + k) = cmZ v o k) ∧ ∀ x, ((x < o + 1804 ∧ x ≠ o + 3) ∨ o + 2110 ≤ x) → cm1 v o x = v x := by
  unfold cm1 cmP cmZ
  by_cases e : v (o + 2) = 0
  · have z := h0 e
    simp only [if_pos e]
    refine ⟨by rw [pgC_3, z], fun k hk => ?_, fun x hx => pgC_o (by omega) (by omega) hx⟩
    rw [pgC_at (by omega), if_neg (by omega), if_pos (by omega)]
  · simp only [if_neg e]
    exact ⟨trivial, fun _ _ => trivial, fun _ _ => trivial⟩
/-- a point more: what stands where -/
theorem cmV_a {v : Nat → Nat} {o p g : Nat} {c : Nat → Nat} (h0 : v (o + 2) = 0 → v (o + 3) = 0) (hm : v (o + 2) < 300) (hP : v (o + 3) ≤ 299) (hp : p ≤ v (o + 2)) (hg : g < cmP v o) : cmV v o p g c (o + 2) = v (o + 2) + 1 ∧ cmV v o p g c (o + 3) = (if cmZ v o g + 1 = 17 then cmP v o + 1 else cmP v o) ∧ (∀ x, x < o + 2 ∨ o + 2110 ≤ x → cmV v o p g c x = v x) ∧ (∀ y t, y ≤ v (o + 2) → t < 6 → cmV v o p g c (o + 4 + 6 * y + t) = if y < p then v (o + 4 + 6 * y + t) else if y = p then c t else v (o + 4 + 6 * (y - 1) + t)) ∧ ∀ k, k < (if cmZ v o g + 1 = 17 then cmP v o + 1 else cmP v o) → cmV v o p g c (o + 1804 + k) = if cmZ v o g + 1 = 17 then (if k < g then cmZ v o k else if k = g then 9 else if k = g + 1 then 8 else cmZ v o (k - 1)) else if k = g then cmZ v o g + 1 else cmZ v o k := by
  obtain ⟨a3, ak, ao⟩ := cm1_a h0 (by omega)
  have hP1 : cmP v o ≤ 300 := by unfold cmP; by_cases e : v (o + 2) = 0 <;> simp only [e, if_true, if_false] <;> omega
  have a2 := ao (o + 2) (by omega)
  have y_ : ∀ x, x < o + 4 ∨ o + 1804 ≤ x → cmY (cm1 v o) (o + 4 + 6 * p) (o + 4 + 6 * v (o + 2)) x = cm1 v o x := fun x hx => by
    unfold cmY
    rw [if_neg (by omega)]
  have yp : ∀ y t, y ≤ v (o + 2) → t < 6 → y ≠ p → cmY (cm1 v o) (o + 4 + 6 * p) (o + 4 + 6 * v (o + 2)) (o + 4 + 6 * y + t) = if y < p then v (o + 4 + 6 * y + t) else v (o + 4 + 6 * (y - 1) + t) := fun y t hy ht hne => by
    unfold cmY
    by_cases q : y < p
    · rw [if_neg (by omega), if_pos q, ao _ (by omega)]
    · rw [if_pos (by omega), if_neg q, ao _ (by omega), show o + 4 + 6 * y + t - 6 = o + 4 + 6 * (y - 1) + t by omega]
  unfold cmV
  generalize hu : cmY (cm1 v o) (o + 4 + 6 * p) (o + 4 + 6 * v (o + 2)) = u at y_ yp ⊢
  have u2 : u (o + 2) = v (o + 2) := (y_ _ (by omega)).trans a2
  have u3 : u (o + 3) = cmP v o := (y_ _ (by omega)).trans a3
  have uk : ∀ k, k < cmP v o → u (o + 1804 + k) = cmZ v o k := fun k hk => (y_ _ (by omega)).trans (ak k hk)
  have ug := uk g hg
  have cp : ∀ y t, y ≤ v (o + 2) → t < 6 → cmC u o (o + 4 + 6 * p) g c (o + 4 + 6 * y + t) = if y < p then v (o + 4 + 6 * y + t) else if y = p then c t else v (o + 4 + 6 * (y - 1) + t) := fun y t hy ht => by
    unfold cmC
    rw [va_up_ne _ _ (by omega), va_up_ne _ _ (by omega)]
    by_cases e : y = p
    · subst e
      rw [w6_at _ _ _ ht, if_neg (by omega), if_pos rfl]
    · rw [w6_o _ _ (by omega), yp y t hy ht e, if_neg e]
  have c2 : cmC u o (o + 4 + 6 * p) g c (o + 2) = v (o + 2) + 1 := by
    unfold cmC; rw [va_up_ne _ _ (by omega), va_up_self, u2]
  have c3 : cmC u o (o + 4 + 6 * p) g c (o + 3) = cmP v o := (cmC_3 (by omega)).trans u3
  have ck : ∀ k, k < cmP v o → cmC u o (o + 4 + 6 * p) g c (o + 1804 + k) = if k = g then cmZ v o g + 1 else cmZ v o k := fun k hk => by
    unfold cmC
    by_cases e : k = g
    · subst e; rw [va_up_self, if_pos rfl, ug]
    · rw [va_up_ne _ _ (by omega), va_up_ne _ _ (by omega), w6_o _ _ (by omega), uk k hk, if_neg e]
  have co : ∀ x, x < o + 2 ∨ o + 2110 ≤ x → cmC u o (o + 4 + 6 * p) g c x = v x := fun x hx => by
    unfold cmC
    rw [va_up_ne _ _ (by omega), va_up_ne _ _ (by omega), w6_o _ _ (by omega), y_ _ (by omega), ao _ (by omega)]
  unfold cmT
  rw [ug]
  by_cases e : cmZ v o g + 1 = 17
  · simp only [if_pos e]
    have d3 : va_up (cmC u o (o + 4 + 6 * p) g c) (o + 1804 + g) 9 (o + 3) = cmP v o := by rw [va_up_ne _ _ (by omega), c3]
    refine ⟨?_, ?_, fun x hx => ?_, fun y t hy ht => ?_, fun k hk => ?_⟩
    · rw [pgC_o (by omega) (by omega) (by omega), va_up_ne _ _ (by omega), c2]
    · rw [pgC_3, d3]
    · rw [pgC_o (by omega) (by omega) (by omega), va_up_ne _ _ (by omega), co x hx]
    · rw [pgC_o (by omega) (by omega) (by omega), va_up_ne _ _ (by omega), cp y t hy ht]
    · rw [pgC_at (by omega)]
      rcases (show k < g ∨ k = g ∨ k = g + 1 ∨ g + 1 < k by omega) with q | q | q | q
      · rw [if_pos (by omega), if_pos q, va_up_ne _ _ (by omega), ck k (by omega), if_neg (by omega)]
      · rw [if_pos (by omega), if_neg (by omega), if_pos q, q, va_up_self]
      · rw [if_neg (by omega), if_pos q, if_neg (by omega), if_neg (by omega), if_pos q]
      · rw [if_neg (by omega), if_neg (by omega), if_neg (by omega), if_neg (by omega), if_neg (by omega), va_up_ne _ _ (by omega), ck (k - 1) (by omega), if_neg (by omega)]
  · simp only [if_neg e]
    exact ⟨c2, c3, co, cp, ck⟩
/-- a slice with a point more is well made -/
theorem SW_cm {v : Nat → Nat} {i o p g nm wt : Nat} {q : Nat → Nat} (hi : i < 8) (hc : okI v i) (s : SW v i o) (ho : 49 ≤ o) (hm : v (o + 2) < 300) (hp : p ≤ v (o + 2)) (b1 : ∀ y, y < p → bef v o y (npI v i q) nm) (b2 : p < v (o + 2) → ¬ bef v o p (npI v i q) nm) (g0 : p = 0 → g = 0) (g1 : 0 < p → g < v (o + 3)) (hq : ∀ a, a < 3 → q a < cB (cK v i) ^ cL v i a) (hn : nm ≤ 9999) (hw : wt ≤ 1000) (hf : ∀ y, y < v (o + 2) → v (o + 4 + 6 * y) ≠ nm) : SW (cmV v o p g (cP nm q wt (npI v i q))) i o ∧ g < cmP v o := by
  obtain ⟨s1, s2, s3, s4, s5, s6⟩ := s
  have h0 : v (o + 2) = 0 → v (o + 3) = 0 := fun e => by omega
  have hP0 : 0 < v (o + 2) → 0 < v (o + 3) := fun e => by
    rcases Nat.eq_zero_or_pos (v (o + 3)) with z | z
    · rw [z] at s3
      have : v (o + 2) = 0 := s3.symm
      omega
    · exact z
  have hg : g < cmP v o := by
    unfold cmP
    by_cases e : v (o + 2) = 0
    · rw [if_pos e, g0 (by omega)]; omega
    · rw [if_neg e]
      rcases Nat.eq_zero_or_pos p with z | z
      · rw [g0 z]; exact hP0 (by omega)
      · exact g1 z
  refine ⟨?_, hg⟩
  obtain ⟨a2, a3, ao, ap, ak⟩ := cmV_a (c := cP nm q wt (npI v i q)) h0 hm (by omega) hp hg
  have eP : cmP v o ≤ v (o + 2) + 1 ∧ (0 < v (o + 2) → cmP v o = v (o + 3)) := by
    unfold cmP
    by_cases e : v (o + 2) = 0
    · rw [if_pos e]; omega
    · rw [if_neg e]; omega
  have hZ : ∀ k, k < cmP v o → cmZ v o k ≤ 16 ∧ (k ≠ g → 1 ≤ cmZ v o k) := fun k hk => by
    unfold cmZ
    by_cases e : v (o + 2) = 0
    · rw [if_pos e]
      unfold cmP at hk hg
      rw [if_pos e] at hk hg
      omega
    · rw [if_neg e]
      have := s4 k (by rw [← eP.2 (by omega)]; exact hk)
      omega
  have hT : psm (cmV v o p g (cP nm q wt (npI v i q))) o (cmV v o p g (cP nm q wt (npI v i q)) (o + 3)) = v (o + 2) + 1 := by
    obtain ⟨c3, ck, co⟩ := cm1_a h0 (show v (o + 3) ≤ 300 by omega)
    have oth : ∀ x, x < o + 4 ∨ o + 1804 ≤ x → cmY (cm1 v o) (o + 4 + 6 * p) (o + 4 + 6 * v (o + 2)) x = cm1 v o x := fun x hx => by
      unfold cmY
      rw [if_neg (by omega)]
    have hT := psm_cmT (v := cmY (cm1 v o) (o + 4 + 6 * p) (o + 4 + 6 * v (o + 2))) (o := o) (a := o + 4 + 6 * p) (g := g) (c := cP nm q wt (npI v i q)) (by omega) (by rw [oth _ (by omega), c3]; exact hg)
    rw [oth (o + 3) (by omega), psm_cg (u := cm1 v o) (o := o) (cm1 v o (o + 3)) (fun j _ => oth _ (by omega))] at hT
    refine hT.1.trans ?_
    congr 1
    rw [c3]
    by_cases e : v (o + 2) = 0
    · have e1 : cmP v o = 1 := if_pos e
      rw [e1, e]
      show 0 + cm1 v o (o + 1804 + 0) = 0
      rw [ck 0 (by omega)]
      unfold cmZ
      rw [if_pos e]
    · rw [eP.2 (by omega), ← s3]
      exact psm_cg _ fun k hk => (ck k (by rw [eP.2 (by omega)]; exact hk)).trans (if_neg e)
  have nb : ∀ y, p ≤ y → y < v (o + 2) → ¬ bef v o y (npI v i q) nm := fun y hy hy2 => by
    rcases Nat.lt_or_eq_of_le hy with z | z
    · intro hb
      have e1 := (s6 p y z hy2).2
      refine b2 (by omega) ?_
      unfold befP bef at *
      omega
    · subst z; exact b2 hy2
  have cg : ∀ x, x < 49 → cmV v o p g (cP nm q wt (npI v i q)) x = v x := fun x hx => ao x (by omega)
  obtain ⟨x1, x2, x3, x4⟩ := cX_cg cg hi
  generalize cmV v o p g (cP nm q wt (npI v i q)) = u at *
  have z0 : ∀ y, u (o + 4 + 6 * y) = u (o + 4 + 6 * y + 0) := fun y => rfl
  unfold SW
  rw [a2]
  refine ⟨by omega, ?_, hT, fun k hk => ?_, fun y hy => ?_, fun y z hyz hz => ?_⟩
  · rw [a3]
    by_cases e : cmZ v o g + 1 = 17
    · rw [if_pos e]
      have : v (o + 2) ≠ 0 := fun w => by unfold cmZ at e; rw [if_pos w] at e; omega
      have := eP.2 (by omega)
      omega
    · rw [if_neg e]; omega
  · rw [a3] at hk
    rw [ak k hk]
    by_cases e : cmZ v o g + 1 = 17
    · rw [if_pos e] at hk ⊢
      rcases (show k < g ∨ k = g ∨ k = g + 1 ∨ g + 1 < k by omega) with z | z | z | z
      · rw [if_pos z]; have := hZ k (by omega); omega
      · rw [if_neg (by omega), if_pos z]; omega
      · rw [if_neg (by omega), if_neg (by omega), if_pos z]; omega
      · rw [if_neg (by omega), if_neg (by omega), if_neg (by omega)]; have := hZ (k - 1) (by omega); omega
    · rw [if_neg e] at hk ⊢
      by_cases z : k = g
      · rw [if_pos z]; have := hZ g hg; omega
      · rw [if_neg z]; have := hZ k hk; omega
  · have old : ∀ y', y' < v (o + 2) → (∀ t, t < 6 → u (o + 4 + 6 * y + t) = v (o + 4 + 6 * y' + t)) → u (o + 4 + 6 * y) ≤ 9999 ∧ u (o + 4 + 6 * y + 4) ≤ 1000 ∧ (∀ a, a < 3 → u (o + 4 + 6 * y + (1 + a)) < cB (cK u i) ^ cL u i a) ∧ u (o + 4 + 6 * y + 5) = npI u i fun a => u (o + 4 + 6 * y + (1 + a)) := fun y' hy' e => by
      obtain ⟨d1, d2, d3, d4⟩ := s5 y' hy'
      refine ⟨by rw [z0, e 0 (by omega)]; exact d1, by rw [e 4 (by omega)]; exact d2, fun a ha => by rw [e (1 + a) (by omega), x1, x3 a ha]; exact d3 a ha, ?_⟩
      rw [e 5 (by omega), d4]
      exact (npI_cg cg hi hc d3 fun a ha => e (1 + a) (by omega)).symm
    rcases Nat.lt_trichotomy y p with z | z | z
    · exact old y (by omega) fun t ht => by rw [ap y t (by omega) ht, if_pos z]
    · subst z
      have e : ∀ t, t < 6 → u (o + 4 + 6 * y + t) = cP nm q wt (npI v i q) t := fun t ht => by rw [ap y t (by omega) ht, if_neg (by omega), if_pos rfl]
      have eq : ∀ a, a < 3 → u (o + 4 + 6 * y + (1 + a)) = q a := fun a ha => by
        rw [e (1 + a) (by omega)]
        rcases (show a = 0 ∨ a = 1 ∨ a = 2 by omega) with rfl | rfl | rfl <;> rfl
      refine ⟨by rw [z0, e 0 (by omega)]; exact hn, by rw [e 4 (by omega)]; exact hw, fun a ha => by rw [eq a ha, x1, x3 a ha]; exact hq a ha, ?_⟩
      rw [e 5 (by omega)]
      exact (npI_cg cg hi hc hq eq).symm
    · exact old (y - 1) (by omega) fun t ht => by rw [ap y t (by omega) ht, if_neg (by omega), if_neg (by omega)]
  · have n5 : ∀ y, y < p → u (o + 4 + 6 * y) = v (o + 4 + 6 * y) ∧ u (o + 4 + 6 * y + 5) = v (o + 4 + 6 * y + 5) := fun y hy => ⟨by rw [z0, ap y 0 (by omega) (by omega), if_pos hy]; rfl, by rw [ap y 5 (by omega) (by omega), if_pos hy]⟩
    have m5 : u (o + 4 + 6 * p) = nm ∧ u (o + 4 + 6 * p + 5) = npI v i q := ⟨by rw [z0, ap p 0 (by omega) (by omega), if_neg (by omega), if_pos rfl]; rfl, by rw [ap p 5 (by omega) (by omega), if_neg (by omega), if_pos rfl]; rfl⟩
    have l5 : ∀ y, p < y → y ≤ v (o + 2) → u (o + 4 + 6 * y) = v (o + 4 + 6 * (y - 1)) ∧ u (o + 4 + 6 * y + 5) = v (o + 4 + 6 * (y - 1) + 5) := fun y hy hy2 => ⟨by rw [z0, ap y 0 (by omega) (by omega), if_neg (by omega), if_neg (by omega)]; rfl, by rw [ap y 5 (by omega) (by omega), if_neg (by omega), if_neg (by omega)]⟩
    unfold befP bef
    rcases Nat.lt_trichotomy y p with e | e | e
    · rw [(n5 y e).1, (n5 y e).2]
      rcases Nat.lt_trichotomy z p with f | f | f
      · rw [(n5 z f).1, (n5 z f).2]; exact s6 y z hyz (by omega)
      · rw [f, m5.1, m5.2]; exact ⟨hf y (by omega), b1 y e⟩
      · rw [(l5 z f (by omega)).1, (l5 z f (by omega)).2]; exact s6 y (z - 1) (by omega) (by omega)
    · have := nb (z - 1) (by omega) (by omega)
      have := hf (z - 1) (by omega)
      rw [e, m5.1, m5.2, (l5 z (by omega) (by omega)).1, (l5 z (by omega) (by omega)).2]
      unfold bef at *
      omega
    · rw [(l5 y e (by omega)).1, (l5 y e (by omega)).2, (l5 z (by omega) (by omega)).1, (l5 z (by omega) (by omega)).2]
      exact s6 (y - 1) (z - 1) (by omega) (by omega)
/-! ===== WHAT STANDS: a point goes ===== -/
theorem pgG_3 (v : Nat → Nat) (o k : Nat) : pgG v o k (o + 3) = v (o + 3) - 1 := va_up_self _ _ _
theorem pgG_o {v : Nat → Nat} {o k x : Nat} (hP : v (o + 3) ≤ 300) (h : (x < o + 1804 ∧ x ≠ o + 3) ∨ o + 2110 ≤ x) : pgG v o k x = v x := by
  unfold pgG
  rw [va_up_ne _ _ (by omega)]
  unfold pgY
  rw [if_neg (by omega)]
theorem pgG_at {v : Nat → Nat} {o k j : Nat} (hj : j < v (o + 3) - 1) : pgG v o k (o + 1804 + j) = if j < k then v (o + 1804 + j) else v (o + 1804 + (j + 1)) := by
  unfold pgG
  rw [va_up_ne _ _ (by omega)]
  unfold pgY
  by_cases q : j < k
  · rw [if_neg (by omega), if_pos q]
  · rw [if_pos (by omega), if_neg q]; rfl
theorem psm_pgG {v : Nat → Nat} {o k : Nat} : ∀ j, j ≤ v (o + 3) - 1 → psm (pgG v o k) o j = if j ≤ k then psm v o j else psm v o (j + 1) - v (o + 1804 + k)
  | 0, _ => by rw [if_pos (Nat.zero_le k)]; rfl
  | j + 1, h => by
    have ih := psm_pgG (v := v) (o := o) (k := k) j (by omega)
    show psm (pgG v o k) o j + pgG v o k (o + 1804 + j) = _
    rw [ih, pgG_at (by omega)]
    rcases Nat.lt_trichotomy j k with q | q | q
    · rw [if_pos (by omega), if_pos q, if_pos (by omega)]; rfl
    · subst q
      rw [if_pos (by omega), if_neg (by omega), if_neg (by omega)]
      show psm v o j + v (o + 1804 + (j + 1)) = psm v o j + v (o + 1804 + j) + v (o + 1804 + (j + 1)) - v (o + 1804 + j)
      omega
    · rw [if_neg (by omega), if_neg (by omega), if_neg (by omega)]
      have : ∀ n, k < n → v (o + 1804 + k) ≤ psm v o n := by
        intro n
        induction n with
        | zero => intro e; omega
        | succ n ih =>
          intro e
          show _ ≤ psm v o n + v (o + 1804 + n)
          by_cases z : k = n
          · subst z; omega
          · have := ih (by omega); omega
      have := this (j + 1) (by omega)
      show psm v o (j + 1) - v (o + 1804 + k) + v (o + 1804 + (j + 1)) = psm v o (j + 1) + v (o + 1804 + (j + 1)) - v (o + 1804 + k)
      omega
/-- page g's size once it has a point less -/
def gsS (v : Nat → Nat) (o g k : Nat) : Nat := if k = g then v (o + 1804 + g) - 1 else v (o + 1804 + k)
/-- where a page is taken out: at n, with what page n-1 or n then has -/
def gsW (v : Nat → Nat) (o g : Nat) : Nat := if gsS v o g g = 0 then 1 else if g + 1 < v (o + 3) ∧ gsS v o g g + gsS v o g (g + 1) ≤ 10 then 2 else if 0 < g ∧ gsS v o g (g - 1) + gsS v o g g ≤ 10 then 3 else 0
def gsP (v : Nat → Nat) (o g : Nat) : Nat := if gsW v o g = 0 then v (o + 3) else v (o + 3) - 1
def gsK (v : Nat → Nat) (o g k : Nat) : Nat := if gsW v o g = 0 then gsS v o g k else if gsW v o g = 1 then (if k < g then gsS v o g k else gsS v o g (k + 1)) else if gsW v o g = 2 then (if k < g then gsS v o g k else if k = g then gsS v o g g + gsS v o g (g + 1) else gsS v o g (k + 1)) else (if k < g - 1 then gsS v o g k else if k = g - 1 then gsS v o g (g - 1) + gsS v o g g else gsS v o g (k + 1))
theorem gsV_a {v : Nat → Nat} {o p g : Nat} (hm : v (o + 2) ≤ 300) (hP : v (o + 3) ≤ 300) (hp : p < v (o + 2)) (hg : g < v (o + 3)) : gsV v o p g (o + 2) = v (o + 2) - 1 ∧ gsV v o p g (o + 3) = gsP v o g ∧ (∀ x, x < o + 2 ∨ o + 2110 ≤ x → gsV v o p g x = v x) ∧ (∀ y t, y < v (o + 2) - 1 → t < 6 → gsV v o p g (o + 4 + 6 * y + t) = if y < p then v (o + 4 + 6 * y + t) else v (o + 4 + 6 * (y + 1) + t)) ∧ ∀ k, k < gsP v o g → gsV v o p g (o + 1804 + k) = gsK v o g k := by
  have lo : ∀ x, x < o + 4 ∨ o + 1804 ≤ x → gsY v (o + 4 + 6 * p) (o + 4 + 6 * v (o + 2) - 6) x = v x := fun x hx => by
    unfold gsY; rw [if_neg (by omega)]
  have u3 : gs1 v o p g (o + 3) = v (o + 3) := by unfold gs1; rw [va_up_ne _ _ (by omega), va_up_ne _ _ (by omega), lo _ (by omega)]
  have u2 : gs1 v o p g (o + 2) = v (o + 2) - 1 := by unfold gs1; rw [va_up_ne _ _ (by omega), va_up_self]
  have uo : ∀ x, x < o + 2 ∨ o + 2110 ≤ x → gs1 v o p g x = v x := fun x hx => by
    unfold gs1; rw [va_up_ne _ _ (by omega), va_up_ne _ _ (by omega), lo _ (by omega)]
  have up : ∀ y t, y < v (o + 2) - 1 → t < 6 → gs1 v o p g (o + 4 + 6 * y + t) = if y < p then v (o + 4 + 6 * y + t) else v (o + 4 + 6 * (y + 1) + t) := fun y t hy ht => by
    unfold gs1
    rw [va_up_ne _ _ (by omega), va_up_ne _ _ (by omega)]
    unfold gsY
    by_cases q : y < p
    · rw [if_neg (by omega), if_pos q]
    · rw [if_pos (by omega), if_neg q, show o + 4 + 6 * y + t + 6 = o + 4 + 6 * (y + 1) + t by omega]
  have us : ∀ k, k < 300 → gs1 v o p g (o + 1804 + k) = gsS v o g k := fun k hk => by
    unfold gs1 gsS
    by_cases e : k = g
    · subst e; rw [va_up_self, if_pos rfl]
    · rw [va_up_ne _ _ (by omega), va_up_ne _ _ (by omega), lo _ (by omega), if_neg e]
  have ug := us g (by omega)
  unfold gsV gsT gsP gsK gsW
  generalize gs1 v o p g = u at *
  rw [ug, u3]
  by_cases c0 : gsS v o g g = 0
  · simp only [if_pos c0]
    rw [if_neg (by omega)]
    simp only [show ¬ (1 = 0) by omega, if_false, if_true]
    refine ⟨by rw [pgG_o (by omega) (by omega)]; exact u2, by rw [pgG_3, u3], fun x hx => by rw [pgG_o (by omega) (by omega)]; exact uo x hx, fun y t hy ht => by rw [pgG_o (by omega) (by omega)]; exact up y t hy ht, fun k hk => ?_⟩
    rw [pgG_at (by omega)]
    by_cases q : k < g
    · rw [if_pos q, if_pos q, us k (by omega)]
    · rw [if_neg q, if_neg q, us (k + 1) (by omega)]
  simp only [if_neg c0]
  by_cases c1 : g + 1 < v (o + 3) ∧ gsS v o g g + gsS v o g (g + 1) ≤ 10
  · simp only [if_pos c1]
    have e1 := us (g + 1) (by omega)
    rw [if_pos (by rw [e1]; exact c1), e1]
    simp only [show ¬ (2 = 0) by omega, show ¬ (2 = 1) by omega, if_false, if_true]
    have d3 : va_up u (o + 1804 + g) (gsS v o g g + gsS v o g (g + 1)) (o + 3) = v (o + 3) := by rw [va_up_ne _ _ (by omega), u3]
    refine ⟨by rw [pgG_o (by omega) (by omega), va_up_ne _ _ (by omega)]; exact u2, by rw [pgG_3, d3], fun x hx => by rw [pgG_o (by omega) (by omega), va_up_ne _ _ (by omega)]; exact uo x hx, fun y t hy ht => by rw [pgG_o (by omega) (by omega), va_up_ne _ _ (by omega)]; exact up y t hy ht, fun k hk => ?_⟩
    rw [pgG_at (by omega)]
    rcases Nat.lt_trichotomy k g with q | q | q
    · rw [if_pos (by omega), va_up_ne _ _ (by omega), if_pos q, us k (by omega)]
    · subst q
      rw [if_pos (by omega), va_up_self, if_neg (by omega), if_pos rfl]
    · rw [if_neg (by omega), va_up_ne _ _ (by omega), if_neg (by omega), if_neg (by omega), us (k + 1) (by omega)]
  simp only [if_neg c1]
  have c1' : ¬ (g + 1 < v (o + 3) ∧ gsS v o g g + u (o + 1804 + (g + 1)) ≤ 10) := fun q => c1 (by rw [← us (g + 1) (by omega)]; exact q)
  rw [if_neg c1']
  by_cases c2 : 0 < g ∧ gsS v o g (g - 1) + gsS v o g g ≤ 10
  · have e1 := us (g - 1) (by omega)
    simp only [if_pos c2]
    rw [if_pos (by rw [e1]; exact c2), e1]
    simp only [show ¬ (3 = 0) by omega, show ¬ (3 = 1) by omega, show ¬ (3 = 2) by omega, if_false]
    have d3 : va_up u (o + 1804 + g - 1) (gsS v o g (g - 1) + gsS v o g g) (o + 3) = v (o + 3) := by rw [va_up_ne _ _ (by omega), u3]
    refine ⟨by rw [pgG_o (by omega) (by omega), va_up_ne _ _ (by omega)]; exact u2, by rw [pgG_3, d3], fun x hx => by rw [pgG_o (by omega) (by omega), va_up_ne _ _ (by omega)]; exact uo x hx, fun y t hy ht => by rw [pgG_o (by omega) (by omega), va_up_ne _ _ (by omega)]; exact up y t hy ht, fun k hk => ?_⟩
    rw [pgG_at (by omega)]
    rcases Nat.lt_trichotomy k (g - 1) with q | q | q
    · rw [if_pos (by omega), va_up_ne _ _ (by omega), if_pos q, us k (by omega)]
    · rw [if_pos (by omega), show o + 1804 + k = o + 1804 + g - 1 by omega, va_up_self, if_neg (by omega), if_pos q]
    · rw [if_neg (by omega), va_up_ne _ _ (by omega), if_neg (by omega), if_neg (by omega), us (k + 1) (by omega)]
  · have c2' : ¬ (0 < g ∧ u (o + 1804 + (g - 1)) + gsS v o g g ≤ 10) := fun q => c2 (by rw [← us (g - 1) (by omega)]; exact q)
    simp only [if_neg c2]
    rw [if_neg c2']
    simp only [if_true]
    exact ⟨u2, u3, uo, up, fun k hk => us k (by omega)⟩
