/-! ===== RANKS: one more, and a part that comes first ===== -/
def adE (E : Nat → Bool) (i j : Nat) : Bool := if j = i then true else E j
theorem cnt_adE {E : Nat → Bool} {i : Nat} (hi : E i = false) (m : Nat) : cnt (adE E i) m = cnt E m + if i < m then 1 else 0 := cnt_s hi m
theorem rk_adE {K : Nat → Nat → Bool} {m : Nat} {E : Nat → Bool} {i : Nat} (hm : i < m) (hi : E i = false) (j : Nat) : rk K m (adE E i) j = rk K m E j + if K i j = true then 1 else 0 := by
  unfold rk
  by_cases k : K i j = true
  · rw [if_pos k]
    have := cnt_s (E := fun x => E x && K x j) (b := i) (by rw [hi]; rfl) m
    rw [if_pos hm] at this
    rw [← this]
    refine cnt_cg m (fun x hx => ?_)
    unfold adE
    by_cases e : x = i
    · rw [if_pos e, if_pos e, e, k]; rfl
    · rw [if_neg e, if_neg e]
  · rw [if_neg k, Nat.add_zero]
    refine cnt_cg m (fun x hx => ?_)
    unfold adE
    by_cases e : x = i
    · rw [if_pos e, e, hi]
      simp only [Bool.not_eq_true] at k
      rw [k]; rfl
    · rw [if_neg e]
theorem elt_adE {K : Nat → Nat → Bool} {m : Nat} (o : Ord K m) {E : Nat → Bool} {i : Nat} (hm : i < m) (hi : E i = false) {r : Nat} (hr : r < cnt E m + 1) : elt K m (adE E i) r = if r < rk K m E i then elt K m E r else if r = rk K m E i then i else elt K m E (r - 1) := by
  have le : rk K m E i ≤ cnt E m := cnt_le m (fun x hx e => by rw [Bool.and_eq_true] at e; exact e.1)
  by_cases c1 : r < rk K m E i
  · rw [if_pos c1]
    obtain ⟨a1, a2, a3⟩ := elt_ok o (E := E) (r := r) (by omega)
    refine elt_at o a1 (by unfold adE; split; rfl; exact a2) ?_
    have nk : ¬ K i (elt K m E r) = true := fun k => by
      have := rk_lt o (E := adE E i) hm a1 (by unfold adE; rw [if_pos rfl]) k
      rw [rk_adE hm hi, rk_adE hm hi, o.1 i hm, k, a3] at this
      simp at this
      omega
    rw [rk_adE hm hi, a3, if_neg nk, Nat.add_zero]
  · rw [if_neg c1]
    by_cases c2 : r = rk K m E i
    · rw [if_pos c2]
      refine elt_at o hm (by unfold adE; rw [if_pos rfl]) ?_
      rw [rk_adE hm hi, o.1 i hm]
      simp
      exact c2.symm
    · rw [if_neg c2]
      obtain ⟨a1, a2, a3⟩ := elt_ok o (E := E) (r := r - 1) (by omega)
      refine elt_at o a1 (by unfold adE; split; rfl; exact a2) ?_
      have ne : i ≠ elt K m E (r - 1) := fun z => by rw [← z, hi] at a2; cases a2
      rw [rk_adE hm hi, a3, if_pos]
      · omega
      · rcases o.2.1 i _ hm a1 ne with k | k
        · exact k
        · have := rk_lt o (E := E) a1 hm a2 k
          rw [a3] at this
          omega
/-- those of E of ranks below N come before all that is not in E -/
theorem elt_fst {K : Nat → Nat → Bool} {m : Nat} (o : Ord K m) {E : Nat → Bool} {N : Nat} (hN : N ≤ cnt E m) (h : ∀ i j, i < m → j < m → E i = true → E j = false → rk K m E i < N → K i j = true) {r : Nat} (hr : r < N) : elt K m (fun _ => true) r = elt K m E r := by
  obtain ⟨a1, a2, a3⟩ := elt_ok o (E := E) (r := r) (by omega)
  refine elt_at o a1 rfl (Eq.trans ?_ a3)
  refine cnt_cg m (fun j hj => ?_)
  cases e : E j with
  | true => simp
  | false =>
    have k := h _ j a1 hj a2 e (by omega)
    have ne : elt K m E r ≠ j := fun z => by rw [z, e] at a2; cases a2
    have : K j (elt K m E r) = false := by
      cases q : K j (elt K m E r) with
      | false => rfl
      | true =>
        have := o.2.2 _ _ _ a1 hj a1 k q
        rw [o.1 _ a1] at this
        cases this
    rw [this]; rfl
theorem elt_cgE {K : Nat → Nat → Bool} {m : Nat} {E F : Nat → Bool} (h : ∀ i, i < m → E i = F i) (r : Nat) : elt K m E r = elt K m F r := by
  have rkE : ∀ i, rk K m E i = rk K m F i := fun i => cnt_cg m (fun j hj => by rw [h j hj])
  have : ∀ n, n ≤ m → elF K m E r n = elF K m F r n := by
    intro n
    induction n with
    | zero => intro _; rfl
    | succ n ih =>
      intro hn
      unfold elF
      rw [h n (by omega), rkE n, ih (by omega)]
  exact this m (Nat.le_refl m)
/-! ===== THE CLASS: distances ===== -/
theorem K_dist {M : q_M} {wy a b c : Nat} (hw : wy < 3) (ha : a < 2 ^ 20) (hb : b < 2 ^ 20) (hc : c < 2 ^ 20) : q_CL 43 [.inl (nI wy), .inr (.inl (lN a)), .inr (.inl (lN b)), .inr (.inl (lN c))] M = some (some (.inr (.inl (lN (dst wy a b c)))), M) := by
  rw [C_X4_distance]
  unfold dst
  rcases (show wy = 0 ∨ wy = 1 ∨ wy = 2 by omega) with rfl | rfl | rfl
  · rw [if_pos nI_0, if_pos rfl]
    simp only [lN_add]
  · have e1 : (if lN c < lN b then lN b else lN c) = lN (if c < b then b else c) := by
      by_cases z : c < b
      · rw [if_pos ((pk_lLT (by omega) (by omega)).mpr z), if_pos z]
      · rw [if_neg (fun y => z ((pk_lLT (by omega) (by omega)).mp y)), if_neg z]
    have e2 : (if lN (if c < b then b else c) < lN a then lN a else lN (if c < b then b else c)) = lN (if (if c < b then b else c) < a then a else (if c < b then b else c)) := by
      have hb' : (if c < b then b else c) < 2 ^ 63 := by split <;> omega
      by_cases z : (if c < b then b else c) < a
      · rw [if_pos ((pk_lLT hb' (by omega)).mpr z), if_pos z]
      · rw [if_neg (fun y => z ((pk_lLT hb' (by omega)).mp y)), if_neg z]
    rw [if_neg (show ¬ nI 1 = 0 by decide +kernel), if_pos rfl, e1, e2]
    have e3 : (if (if c < b then b else c) < a then a else (if c < b then b else c)) = if (if a ≤ b then b else a) ≤ c then c else (if a ≤ b then b else a) := by
      repeat' split
      all_goals omega
    rw [e3]
    rfl
  · rw [if_neg (show ¬ nI 2 = 0 by decide +kernel), if_neg (show ¬ nI 2 = nI 1 by decide +kernel), if_neg (by omega), if_pos rfl]
    simp only [lN_mul, lN_add]
