/-! ===== THE KINDS OF CURVES ===== -/
/-- the axes of the digits, in order -/
def owR (L : Nat → Nat) : List Nat := List.replicate (L 0) 0 ++ (List.replicate (L 1) 1 ++ List.replicate (L 2) 2)
def owB (L : Nat → Nat) (b : Nat) : List Nat := [0, 1, 2].filter fun a => decide (b < L a)
/-- woven: the bits from n - 1 down to 0 -/
def owN (L : Nat → Nat) : Nat → List Nat
  | 0 => []
  | n + 1 => owB L n ++ owN L n
def owW (L : Nat → Nat) : List Nat := owN L 20
def owK (K : Nat) (L : Nat → Nat) : List Nat := if K = 0 then owR L else owW L
theorem owR_c (L : Nat → Nat) : ∀ a, a < 3 → (owR L).count a = L a := by
  intro a ha
  unfold owR
  rcases (show a = 0 ∨ a = 1 ∨ a = 2 by omega) with rfl | rfl | rfl <;> simp [List.count_append, List.count_replicate]
theorem owB_c (L : Nat → Nat) (b : Nat) : ∀ a, a < 3 → (owB L b).count a = if b < L a then 1 else 0 := by
  intro a ha
  unfold owB
  rcases (show a = 0 ∨ a = 1 ∨ a = 2 by omega) with rfl | rfl | rfl <;> (simp only [List.filter_cons, List.filter_nil, decide_eq_true_eq]; split <;> split <;> split <;> simp_all)
theorem owN_c (L : Nat → Nat) : ∀ (n : Nat) (a : Nat), a < 3 → (owN L n).count a = min n (L a)
  | 0, a, _ => by simp [owN]
  | n + 1, a, ha => by
    unfold owN
    rw [List.count_append, owB_c L n a ha, owN_c L n a ha]
    split <;> omega
theorem owW_c {L : Nat → Nat} (h : ∀ a, a < 3 → L a ≤ 20) : ∀ a, a < 3 → (owW L).count a = L a := by
  intro a ha
  unfold owW
  rw [owN_c L 20 a ha]
  have := h a ha
  omega
theorem owR_3 (L : Nat → Nat) : ∀ x ∈ owR L, x < 3 := by
  intro x hx
  unfold owR at hx
  rcases List.mem_append.mp hx with h | h
  · rw [List.eq_of_mem_replicate h]; omega
  · rcases List.mem_append.mp h with h | h
    · rw [List.eq_of_mem_replicate h]; omega
    · rw [List.eq_of_mem_replicate h]; omega
theorem owN_3 (L : Nat → Nat) : ∀ n, ∀ x ∈ owN L n, x < 3
  | 0, x, h => by cases h
  | n + 1, x, h => by
    rcases List.mem_append.mp h with h | h
    · have := (List.mem_filter.mp h).1
      simp at this
      omega
    · exact owN_3 L n x h
theorem owK_c {K : Nat} {L : Nat → Nat} (h : ∀ a, a < 3 → L a ≤ 20) : ∀ a, a < 3 → (owK K L).count a = L a := by
  unfold owK
  split
  · exact owR_c L
  · exact owW_c h
theorem owK_3 (K : Nat) (L : Nat → Nat) : ∀ x ∈ owK K L, x < 3 := by
  unfold owK
  split
  · exact owR_3 L
  · exact owN_3 L 20
theorem ow_len {l : List Nat} (h : ∀ x ∈ l, x < 3) : l.length = l.count 0 + l.count 1 + l.count 2 := by
  induction l with
  | nil => rfl
  | cons x r ih =>
    have h1 := ih (fun y hy => h y (List.mem_cons_of_mem _ hy))
    have h2 := h x List.mem_cons_self
    rcases (show x = 0 ∨ x = 1 ∨ x = 2 by omega) with rfl | rfl | rfl <;> simp [List.count_cons, h1] <;> omega
/-- a machine with a fixed order of axes is good -/
theorem gd_ow {c : Cm} {l : List Nat} {L : Nat → Nat} (hB : 2 ≤ c.1) (hx : ∀ x ∈ l, x < 3) (hc : ∀ a, a < 3 → l.count a = L a) (ha : ∀ k s, k < l.length → c.2.1 k s = l.getD k 0) (hR : ∀ a, a < 3 → c.2.2.2.2 a = c.1 ^ L a) (ht : ∀ k s v, v < c.1 → c.2.2.1 k s v < c.1 ∧ c.2.2.1 k s (c.2.2.1 k s v) = v) : Gd c l.length := by
  have hle : ∀ k a, a < 3 → (l.take k).count a ≤ L a := fun k a h => by
    rw [← hc a h]
    exact (List.take_sublist k l).count_le a
  have hs : ∀ k, k ≤ l.length → ∀ p a, a < 3 → (bx c k p).2.1 a = c.1 ^ (L a - (l.take k).count a) := by
    intro k
    induction k with
    | zero =>
      intro _ p a h
      show c.2.2.2.2 a = _
      rw [hR a h]
      simp
    | succ k ih =>
      intro hk p a h
      have hk2 : k < l.length := by omega
      have ih := ih (by omega) (p / c.1)
      show va_up (bx c k (p / c.1)).2.1 (c.2.1 k (bx c k (p / c.1)).2.2) _ a = _
      rw [ha k _ hk2, List.take_succ_eq_append_getElem hk2, List.count_append]
      have hg : l.getD k 0 = l[k] := by simp [List.getD, hk2]
      rw [hg]
      have h3 : l[k] < 3 := hx _ (List.getElem_mem hk2)
      have hle2 := hle (k + 1) a h
      rw [List.take_succ_eq_append_getElem hk2, List.count_append] at hle2
      by_cases e : a = l[k]
      · subst e
        rw [va_up_self, ih _ h3]
        simp only [List.count_singleton_self] at hle2 ⊢
        rw [show L l[k] - List.count l[k] (List.take k l) = (L l[k] - (List.count l[k] (List.take k l) + 1)) + 1 by omega, Nat.pow_succ, Nat.mul_div_cancel _ (by omega)]
      · rw [va_up_ne _ _ e, ih a h]
        have : List.count a [l[k]] = 0 := by simp [List.count_singleton]; exact fun q => e q.symm
        rw [this, Nat.add_zero]
  refine ⟨hB, fun k p hk hp => ?_, fun p hp a h => ?_⟩
  · have hg : l.getD k 0 = l[k] := by simp [List.getD, hk]
    have e1 : bxa c k p = l[k] := (ha k _ hk).trans hg
    have h3 : l[k] < 3 := hx _ (List.getElem_mem hk)
    have hle2 := hle (k + 1) l[k] h3
    rw [List.take_succ_eq_append_getElem hk, List.count_append] at hle2
    simp only [List.count_singleton_self] at hle2
    have e2 : (bx c k p).2.1 (bxa c k p) = c.1 ^ (L l[k] - (List.count l[k] (List.take k l) + 1)) * c.1 := by
      rw [e1, hs k (by omega) p _ h3, ← Nat.pow_succ]
      congr 1
      omega
    have e3 : bxp c k p = c.1 ^ (L l[k] - (List.count l[k] (List.take k l) + 1)) := by
      show (bx c k p).2.1 (bxa c k p) / c.1 = _
      rw [e2, Nat.mul_div_cancel _ (by omega)]
    refine ⟨by rw [e1]; exact h3, ?_, by rw [e2, e3], fun v hv => ht k _ v hv⟩
    rw [e3]
    exact Nat.pow_pos (by omega)
  · rw [hs _ (Nat.le_refl _) p a h, List.take_length, hc a h, Nat.sub_self, Nat.pow_zero]
/-! SNAIL -/
def snO (s a : Nat) : Nat := ((if a = 0 then 0 else s % 2) + (if a = 1 then 0 else s / 2 % 2) + (if a = 2 then 0 else s / 4 % 2)) % 2
def snT (s a v : Nat) : Nat := if snO s a = 1 then 2 - v else v
def snN (s a v : Nat) : Nat := s ^^^ (v % 2 * 2 ^ a)
/-! TURNING: e * 32 + t * 8 + w -/
def tuB (d r s : Nat) : Nat := (d - 1 - r + s / 8 % 4 + 1) % d
def tuA (d r s : Nat) : Nat := d - 1 - tuB d r s
def tuT (d r s v : Nat) : Nat := (v + s % 2 + s / 32 / 2 ^ tuB d r s % 2) % 2
def tuO (w : Nat) : Nat := if w % 4 = 3 then (if w % 8 = 7 then 3 else 2) else if w % 2 = 1 then 1 else 0
def tuE (d e t w : Nat) : Nat := if w = 0 then e else e ^^^ (((((w - 1) / 2 * 2) ^^^ ((w - 1) / 2)) * 2 ^ (t + 1) ||| (((w - 1) / 2 * 2) ^^^ ((w - 1) / 2)) / 2 ^ (d - t - 1)) &&& (2 ^ d - 1))
def tuU (d t w : Nat) : Nat := if w = 0 then (t + 1) % d else (t + 1 + tuO (if w % 2 = 1 then w else w - 1)) % d
def tuN (d r s v : Nat) : Nat := if r < d - 1 then s / 8 * 8 + (s % 4 * 2 + v) else tuE d (s / 32) (s / 8 % 4) (s % 4 * 2 + v) * 32 + tuU d (s / 8 % 4) (s % 4 * 2 + v) * 8
/-- the machine of a curve: kind, axes, lengths -/
def cmO (K d : Nat) (L : Nat → Nat) : Cm :=
  if K = 2 then (2, fun k s => tuA d (k % d) s, fun k s v => tuT d (k % d) s v, fun k s v => tuN d (k % d) s v, fun a => 2 ^ L a)
  else if K = 3 then (3, fun k _ => (owW L).getD k 0, fun k s v => snT s ((owW L).getD k 0) v, fun k s v => snN s ((owW L).getD k 0) v, fun a => 3 ^ L a)
  else (2, fun k _ => (owK K L).getD k 0, fun _ _ v => v, fun _ _ _ => 0, fun a => 2 ^ L a)
/-- what a curve may be -/
def okC (K d : Nat) (L : Nat → Nat) : Prop := K ≤ 4 ∧ (d = 2 ∨ d = 3) ∧ (∀ a, a < 3 → L a ≤ 20) ∧ (∀ a, a < d → 1 ≤ L a) ∧ (∀ a, d ≤ a → a < 3 → L a = 0) ∧ (K = 1 ∨ K = 2 ∨ K = 3 → ∀ a, a < d → L a = L 0) ∧ (K = 3 → L 0 ≤ 12)
theorem snT_ok : ∀ s a v, v < 3 → snT s a v < 3 ∧ snT s a (snT s a v) = v := by
  intro s a v hv
  unfold snT
  split <;> omega
theorem gd_plain {K d : Nat} {L : Nat → Nat} (h : okC K d L) (hK : K ≠ 2) : Gd (cmO K d L) (L 0 + L 1 + L 2) := by
  have hl : ∀ K2, (owK K2 L).length = L 0 + L 1 + L 2 := fun K2 => by
    rw [ow_len (owK_3 K2 L), owK_c h.2.2.1 0 (by omega), owK_c h.2.2.1 1 (by omega), owK_c h.2.2.1 2 (by omega)]
  unfold cmO
  rw [if_neg hK]
  split
  · rw [← hl 1]
    exact gd_ow (l := owK 1 L) (L := L) (show 2 ≤ 3 by omega) (owK_3 1 L) (owK_c h.2.2.1) (fun k s _ => rfl) (fun a _ => rfl) (fun k s v hv => snT_ok _ _ _ hv)
  · rw [← hl K]
    exact gd_ow (l := owK K L) (L := L) (show 2 ≤ 2 by omega) (owK_3 K L) (owK_c h.2.2.1) (fun k s _ => rfl) (fun a _ => rfl) (fun k s v hv => ⟨hv, rfl⟩)
