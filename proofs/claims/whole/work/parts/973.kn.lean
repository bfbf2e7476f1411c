/-! ===== THE CLASS: pages of a row in the making ===== -/
theorem fr.fc {P : Nat → Nat → Prop} {Q : Nat → Prop} {M M1 : q_M} (f : fr P M M1) (h : ∀ a k, P a k → Q a) : FC Q M M1 := ⟨f.1, f.2.1, by rw [f.2.2.1], fun a k q => ⟨f.2.2.2 a k fun z => q (h a k z), f.gl a k, f.gr a k⟩, fun a k _ => f.gr a k⟩
def SZ (M : q_M) (r sz : Nat) (z : Nat → Nat) (P : Nat) : Prop := M.1 r = 3 ∧ gR M r 1 = some sz ∧ M.1 sz = 14 ∧ P ≤ M.2.1 sz ∧ M.2.1 sz ≤ 700 ∧ gI M r 3 = nI P ∧ ∀ k, k < P → gI M sz k = nI (z k)
def szf (r sz a k : Nat) : Prop := a = sz ∨ (a = r ∧ k = 3)
theorem RWx.zz {M : q_M} {r ps sz : Nat} {v : Nat → Nat} {o : Nat} (h : RWx M r ps sz v o) : SZ M r sz (fun k => v (o + 1804 + k)) (v (o + 3)) := by
  obtain ⟨h1, h2, h3, h4, h5, h6, h7, h8, h9, h10, h11, h12, h13⟩ := h
  exact ⟨h1, h3, h5, h8, h9, h11, h13⟩
theorem SZ.f1 {M : q_M} {r sz P : Nat} {z : Nat → Nat} (h : SZ M r sz z P) : q_fR M 3 r 1 = some (some sz) := (z_fR (by rw [h.1]; rfl)).trans (congrArg some h.2.1)
theorem SZ.f3 {M : q_M} {r sz P : Nat} {z : Nat → Nat} (h : SZ M r sz z P) : q_fI M 3 r 3 = some (nI P) := (z_fI (by rw [h.1]; rfl)).trans (congrArg some h.2.2.2.2.2.1)
theorem SZ.g {M : q_M} {r sz P : Nat} {z : Nat → Nat} (h : SZ M r sz z P) {k : Nat} (hk : k < P) : q_aI M 14 sz (nI k) = some (nI (z k)) := by
  obtain ⟨h1, h2, h3, h4, h5, h6, h7⟩ := h
  exact (z_aI h3 rfl (by omega) (by omega)).trans (congrArg some (h7 k hk))
theorem SZ.b {M : q_M} {r sz P : Nat} {z : Nat → Nat} (h : SZ M r sz z P) {k : Nat} {x : Int32} (hk : k < M.2.1 sz) : q_bI M 14 sz (nI k) x = some (stI M sz k x) := by
  obtain ⟨h1, h2, h3, h4, h5, h6, h7⟩ := h
  exact z_bI h3 rfl hk (by omega)
theorem SZ.ne {M : q_M} {r sz P : Nat} {z : Nat → Nat} (h : SZ M r sz z P) : r ≠ sz := fun e => by
  obtain ⟨h1, h2, h3, _⟩ := h
  rw [e] at h1; omega
theorem SZ.cg {M : q_M} {r sz P : Nat} {z y : Nat → Nat} (h : SZ M r sz z P) (e : ∀ k, k < P → y k = z k) : SZ M r sz y P := by
  obtain ⟨h1, h2, h3, h4, h5, h6, h7⟩ := h
  exact ⟨h1, h2, h3, h4, h5, h6, fun k hk => by rw [e k hk]; exact h7 k hk⟩
def wZ (z : Nat → Nat) (k n x : Nat) : Nat := if x = k then n else z x
/-- a page's number is written -/
theorem SZ.w {M : q_M} {r sz P : Nat} {z : Nat → Nat} (h : SZ M r sz z P) {k n : Nat} : SZ (stI M sz k (nI n)) r sz (wZ z k n) P := by
  have ne := h.ne
  obtain ⟨h1, h2, h3, h4, h5, h6, h7⟩ := h
  refine ⟨h1, h2, h3, h4, h5, (gI_oth (fun e => ne e.1)).trans h6, fun x hx => ?_⟩
  unfold wZ
  rw [gI_stI]
  by_cases c : x = k
  · rw [if_pos ⟨rfl, c⟩, if_pos c]
  · rw [if_neg (fun e => c e.2), if_neg c]; exact h7 x hx
/-- how many pages there are is written -/
theorem SZ.p {M : q_M} {r sz P : Nat} {z : Nat → Nat} (h : SZ M r sz z P) {Q : Nat} (hq : Q ≤ M.2.1 sz) (e : ∀ k, P ≤ k → k < Q → gI M sz k = nI (z k)) : SZ (stI M r 3 (nI Q)) r sz z Q := by
  have ne := h.ne
  obtain ⟨h1, h2, h3, h4, h5, h6, h7⟩ := h
  refine ⟨h1, h2, h3, hq, h5, gI_self, fun x hx => ?_⟩
  rw [gI_oth (fun e => ne e.1.symm)]
  by_cases c : x < P
  · exact h7 x c
  · exact e x (by omega) hx
theorem K_pgZ {M : q_M} {r sz P : Nat} {v : Nat → Nat} {o : Nat} (h : SZ M r sz (fun k => v (o + 1804 + k)) P) (hP : P ≤ 300) {p g : Nat} (g1 : g < P) (g2 : psm v o g ≤ p) (g3 : p < psm v o (g + 1)) (hb : psm v o P < 2 ^ 30) : q_CL 22 [.inr (.inr (some r)), .inl (nI p)] M = some (some (.inl (nI g)), M) := by
  rw [C_X3_pageOf]
  have key : ∀ m k, k + m = g → q_RL T_X3_pageOf (4, [some (.inr (.inr (some r))), some (.inl (nI p)), some (.inl (nI (psm v o k))), some (.inl (nI k))], [], M) = some (some (.inl (nI g)), M) := by
    intro m
    induction m with
    | zero =>
      intro k hk
      rw [Nat.add_zero] at hk
      subst hk
      have e : psm v o k + v (o + 1804 + k) = psm v o (k + 1) := rfl
      have := psm_mo (v := v) (o := o) (show k + 1 ≤ P by omega)
      rw [E_X3_pageOf_4]
      simp only [h.f3, Option.bind_some]
      rw [if_neg (nI_ge g1 (by omega))]
      simp only [h.f1, Option.bind_some, h.g g1, nI_add, e]
      rw [if_neg (nI_ge g3 (by omega))]
    | succ m ih =>
      intro k hk
      have e : psm v o k + v (o + 1804 + k) = psm v o (k + 1) := rfl
      have m1 := psm_mo (v := v) (o := o) (show k + 1 ≤ g by omega)
      have m2 := psm_mo (v := v) (o := o) (show g + 1 ≤ P by omega)
      rw [E_X3_pageOf_4]
      simp only [h.f3, Option.bind_some]
      rw [if_neg (nI_ge (by omega) (by omega))]
      simp only [h.f1, Option.bind_some, h.g (show k < P by omega), nI_add, e, nI_1]
      rw [if_pos (nI_le (by omega) (by omega))]
      exact ih (k + 1) (by omega)
  exact key g 0 (by omega)
def ptZ (z : Nat → Nat) (g x : Nat) : Nat := if x < g then z x else if x = g then 9 else if x = g + 1 then 8 else z (x - 1)
theorem K_part {M : q_M} {r sz P : Nat} {z : Nat → Nat} (h : SZ M r sz z P) (hP : P < M.2.1 sz) {g : Nat} (hg : g < P) (e17 : z g = 17) : ∃ M1, q_CL 28 [.inr (.inr (some r)), .inl (nI g)] M = some (none, M1) ∧ fr (szf r sz) M M1 ∧ SZ M1 r sz (ptZ z g) (P + 1) := by
  have ne := h.ne
  have tr : q_isT 3 (M.1 r) = true := by rw [h.1]; rfl
  have h5 := h.2.2.2.2.1
  rw [C_X3_part]
  simp only [h.f3, Option.bind_some]
  have key : ∀ n j, j = g + 1 + n → j ≤ P → ∀ M, SZ M r sz z j ∨ True → M.1 r = 3 → gR M r 1 = some sz → M.1 sz = 14 → M.2.1 sz ≤ 700 → P < M.2.1 sz → gI M r 3 = nI P → (∀ x, x < j → gI M sz x = nI (z x)) → (∀ x, j < x → x ≤ P → gI M sz x = nI (z (x - 1))) → ∃ M1, q_RL T_X3_part (5, [some (.inr (.inr (some r))), some (.inl (nI g)), some (.inl (nI j))], [], M) = some (none, M1) ∧ fr (szf r sz) M M1 ∧ SZ M1 r sz (ptZ z g) (P + 1) := by
    intro n
    induction n with
    | zero =>
      intro j hj hjP M _ a1 a2 a3 a4 a5 a6 a7 a8
      rw [Nat.add_zero] at hj
      subst hj
      have t : q_isT 3 (M.1 r) = true := by rw [a1]; rfl
      refine ⟨stI (stI (stI M r 3 (nI (P + 1))) sz (g + 1) (nI 8)) sz g (nI 9), ?_, (((fr.rf _ M).st (Or.inr ⟨rfl, rfl⟩)).st (Or.inl rfl)).st (Or.inl rfl), a1, a2, a3, a5, a4, (gI_oth (fun e => ne e.1)).trans ((gI_oth (fun e => ne e.1)).trans gI_self), fun k hk => ?_⟩
      · rw [E_X3_part_5, nI_add, if_pos (nI_le (by omega) (by omega))]
        have t1 : q_isT 3 ((stI M r 3 (nI (P + 1))).1 r) = true := t
        have t2 : q_isT 3 ((stI (stI M r 3 (nI (P + 1))) sz (g + 1) (nI 8)).1 r) = true := t
        have b1 : (stI M r 3 (nI (P + 1))).1 sz = 14 := a3
        have b2 : (stI (stI M r 3 (nI (P + 1))) sz (g + 1) (nI 8)).1 sz = 14 := a3
        have l1 : (stI M r 3 (nI (P + 1))).2.1 sz = M.2.1 sz := rfl
        have l2 : (stI (stI M r 3 (nI (P + 1))) sz (g + 1) (nI 8)).2.1 sz = M.2.1 sz := rfl
        have c1 : gI (stI M r 3 (nI (P + 1))) sz g = nI 17 := (gI_oth (fun e => ne e.1.symm)).trans ((a7 g (by omega)).trans (by rw [e17]))
        simp only [z_fI t, a6, Option.bind_some, z_sI t, nI_add, z_fR t1, gR_stI, a2, z_aI b1 l1 (show g < M.2.1 sz by omega) (show M.2.1 sz ≤ 2147483647 by omega), c1, pk_sub (show 9 ≤ 17 by omega), z_bI b1 l1 (show g + 1 < M.2.1 sz by omega) (show M.2.1 sz ≤ 2147483647 by omega), z_fR t2, z_bI b2 l2 (show g < M.2.1 sz by omega) (show M.2.1 sz ≤ 2147483647 by omega)]
      · unfold ptZ
        rw [gI_stI]
        by_cases c0 : k = g
        · rw [if_pos ⟨rfl, c0⟩, if_neg (by omega), if_pos c0]
        rw [if_neg (fun e => c0 e.2), gI_stI]
        by_cases c1 : k = g + 1
        · rw [if_pos ⟨rfl, c1⟩, if_neg (by omega), if_neg c0, if_pos c1]
        rw [if_neg (fun e => c1 e.2), gI_oth (fun e => ne e.1.symm), if_neg c0, if_neg c1]
        by_cases c2 : k < g
        · rw [if_pos c2]; exact a7 k (by omega)
        · rw [if_neg c2]; exact a8 k (by omega) (by omega)
    | succ n ih =>
      intro j hj hjP M _ a1 a2 a3 a4 a5 a6 a7 a8
      have t : q_isT 3 (M.1 r) = true := by rw [a1]; rfl
      obtain ⟨M1, u1, u2, u3⟩ := ih (j - 1) (by omega) (by omega) (stI M sz j (nI (z (j - 1)))) (Or.inr trivial) a1 a2 a3 a4 a5 ((gI_oth (fun e => ne e.1)).trans a6) (fun x hx => (gI_oth (fun e => by omega)).trans (a7 x (by omega))) (fun x hx hx2 => by
        rw [gI_stI]
        by_cases c : x = j
        · rw [if_pos ⟨rfl, c⟩, c]
        · rw [if_neg (fun e => c e.2)]; exact a8 x (by omega) hx2)
      refine ⟨M1, ?_, ((fr.rf _ M).st (Or.inl rfl)).tr u2, u3⟩
      rw [E_X3_part_5, nI_add, if_neg (nI_ge (by omega) (by omega))]
      simp only [z_fR t, a2, Option.bind_some, pk_sub (show 1 ≤ j by omega), z_aI a3 rfl (show j - 1 < M.2.1 sz by omega) (show M.2.1 sz ≤ 2147483647 by omega), a7 (j - 1) (by omega), z_bI a3 rfl (show j < M.2.1 sz by omega) (show M.2.1 sz ≤ 2147483647 by omega)]
      have ej : nI j + (-1) = nI (j - 1) := by rw [show j = j - 1 + 1 by omega, pk_m1]; rfl
      rw [ej]
      exact u1
  obtain ⟨h1, h2, h3, h4, h5, h6, h7⟩ := h
  exact key (P - (g + 1)) P (by omega) (Nat.le_refl _) M (Or.inr trivial) h1 h2 h3 h5 hP h6 h7 (fun x hx hx2 => by omega)
def rmZ (z : Nat → Nat) (g x : Nat) : Nat := if x < g then z x else z (x + 1)
theorem K_rmPg {M : q_M} {r sz P : Nat} {z : Nat → Nat} (h : SZ M r sz z P) {g : Nat} (hg : g < P) : ∃ M1, q_CL 30 [.inr (.inr (some r)), .inl (nI g)] M = some (none, M1) ∧ fr (szf r sz) M M1 ∧ SZ M1 r sz (rmZ z g) (P - 1) := by
  have ne := h.ne
  have h4 := h.2.2.2.1
  have h5 := h.2.2.2.2.1
  have t : q_isT 3 (M.1 r) = true := by rw [h.1]; rfl
  rw [C_X3_removePage]
  simp only [h.f3, Option.bind_some, z_sI t, pk_sub (show 1 ≤ P by omega)]
  have key : ∀ n j, j + n = P - 1 → g ≤ j → ∀ M, M.1 r = 3 → gR M r 1 = some sz → M.1 sz = 14 → M.2.1 sz ≤ 700 → P ≤ M.2.1 sz → gI M r 3 = nI (P - 1) → (∀ x, x < P → gI M sz x = nI (if x < j then rmZ z g x else z x)) → ∃ M1, q_RL T_X3_removePage (12, [some (.inr (.inr (some r))), some (.inl (nI g)), some (.inl (nI j))], [], M) = some (none, M1) ∧ fr (szf r sz) M M1 ∧ SZ M1 r sz (rmZ z g) (P - 1) := by
    intro n
    induction n with
    | zero =>
      intro j hj hg2 M a1 a2 a3 a4 a5 a6 a7
      have t : q_isT 3 (M.1 r) = true := by rw [a1]; rfl
      refine ⟨M, ?_, fr.rf _ M, a1, a2, a3, by omega, a4, a6, fun k hk => ?_⟩
      · rw [E_X3_removePage_12]
        simp only [z_fI t, a6, Option.bind_some]
        rw [if_pos (nI_le (by omega) (by omega))]
      · rw [a7 k (by omega), if_pos (by omega)]
    | succ n ih =>
      intro j hj hg2 M a1 a2 a3 a4 a5 a6 a7
      have t : q_isT 3 (M.1 r) = true := by rw [a1]; rfl
      obtain ⟨M1, u1, u2, u3⟩ := ih (j + 1) (by omega) (by omega) (stI M sz j (nI (z (j + 1)))) a1 a2 a3 a4 a5 ((gI_oth (fun e => ne e.1)).trans a6) (fun x hx => by
        rw [gI_stI]
        by_cases c : x = j
        · rw [if_pos ⟨rfl, c⟩, if_pos (by omega), c]; unfold rmZ; rw [if_neg (by omega)]
        · rw [if_neg (fun e => c e.2), a7 x hx]
          by_cases d : x < j
          · rw [if_pos d, if_pos (by omega)]
          · rw [if_neg d, if_neg (by omega)])
      refine ⟨M1, ?_, ((fr.rf _ M).st (Or.inl rfl)).tr u2, u3⟩
      have e1 : gI M sz (j + 1) = nI (z (j + 1)) := by rw [a7 (j + 1) (by omega), if_neg (by omega)]
      rw [E_X3_removePage_12]
      simp only [z_fI t, a6, Option.bind_some]
      rw [if_neg (nI_ge (by omega) (by omega))]
      simp only [z_fR t, a2, Option.bind_some, nI_add, z_aI a3 rfl (show j + 1 < M.2.1 sz by omega) (show M.2.1 sz ≤ 2147483647 by omega), e1, z_bI a3 rfl (show j < M.2.1 sz by omega) (show M.2.1 sz ≤ 2147483647 by omega), nI_1]
      exact u1
  obtain ⟨h1, h2, h3, h4, h5, h6, h7⟩ := h
  obtain ⟨M1, u1, u2, u3⟩ := key (P - 1 - g) g (by omega) (Nat.le_refl _) (stI M r 3 (nI (P - 1))) h1 h2 h3 h5 h4 gI_self (fun x hx => by
    rw [gI_oth (fun e => ne e.1.symm), h7 x hx]
    by_cases c : x < g
    · rw [if_pos c]; unfold rmZ; rw [if_pos c]
    · rw [if_neg c])
  exact ⟨M1, u1, ((fr.rf _ M).st (Or.inr ⟨rfl, rfl⟩)).tr u2, u3⟩
def mlZ (z : Nat → Nat) (g x : Nat) : Nat := if x < g then z x else if x = g then z g + z (g + 1) else z (x + 1)
theorem K_meltP {M : q_M} {r sz P : Nat} {z : Nat → Nat} (h : SZ M r sz z P) {g : Nat} (hg : g + 1 < P) : ∃ M1, q_CL 29 [.inr (.inr (some r)), .inl (nI g)] M = some (none, M1) ∧ fr (szf r sz) M M1 ∧ SZ M1 r sz (mlZ z g) (P - 1) := by
  have h4 := h.2.2.2.1
  have hw := h.w (k := g + 1) (n := z (g + 1) + z g)
  obtain ⟨M1, u1, u2, u3⟩ := K_rmPg hw (g := g) (by omega)
  refine ⟨M1, ?_, ((fr.rf _ M).st (Or.inl rfl)).tr u2, u3.cg (fun k hk => ?_)⟩
  · rw [C_X3_melt]
    simp only [h.f1, Option.bind_some, nI_add, h.g hg, h.g (show g < P by omega), h.b (show g + 1 < M.2.1 sz by omega), z_sel hw.1, u1, z_rV]
  · unfold mlZ rmZ wZ
    by_cases c : k < g
    · rw [if_pos c, if_pos c, if_neg (by omega)]
    · rw [if_neg c, if_neg c]
      by_cases d : k = g
      · rw [if_pos d, if_pos (by omega)]; omega
      · rw [if_neg d, if_neg (by omega)]
