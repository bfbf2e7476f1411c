theorem FC.fr {P : Nat → Nat → Prop} {Q : Nat → Prop} {M M1 M2 : q_M} (a : FC Q M M1) (f : fr P M1 M2) (h : ∀ a k, P a k → Q a) : FC Q M M2 := a.tr (f.fc h)
/-- come -/
theorem K_come {v : Nat → Nat} {i o p g k nm wt : Nat} {q : Nat → Nat} (hi : i < 8) (hc : okI v i) (s : SW v i o) (ho : 49 ≤ o) (hm : v (o + 2) < 300) (ca : cmAt v i o nm q wt p g k) (hq : ∀ a, a < 3 → q a < cB (cK v i) ^ cL v i a) (hn : nm ≤ 9999) (hw : wt ≤ 1000) (hf : ∀ y, y < v (o + 2) → v (o + 4 + 6 * y) ≠ nm) (hN : npI v i q < 2 ^ 62) (hb : ∀ y, y < v (o + 2) → v (o + 4 + 6 * y + 5) < 2 ^ 62) {M : q_M} {r ps sz : Nat} (h : SH M) (w : RWx M r ps sz v o) (g63 : 63 ≤ r ∧ 63 ≤ ps ∧ 63 ≤ sz) (l1 : v (o + 2) < M.2.1 ps) (l2 : v (o + 3) < M.2.1 sz) {c : Nat} (pc : PO M c (cP nm q wt (npI v i q))) : ∃ M1, q_CL 19 [.inr (.inr (some r)), .inr (.inr (some c))] M = some (some (.inl (nI k)), M1) ∧ FC (dra r ps sz) M M1 ∧ RWx M1 r ps sz (cmV v o p g (cP nm q wt (npI v i q))) o := by
  obtain ⟨ca1, ca2, ca3, ca4, ca5, ca6, ca7⟩ := ca
  obtain ⟨sw, hg⟩ := SW_cm hi hc s ho hm ca1 ca2 ca3 ca4 (fun z => (ca5 z).1) hq hn hw hf
  obtain ⟨s1, s2, s3, s4, s5, s6⟩ := s
  obtain ⟨n1, n2, n3⟩ := w.nd
  have n23 := w.n23 h
  have w0 := w
  have zz := w.zz
  obtain ⟨h1, h2, h3, h4, h5, h6, h7, h8, h9, h10, h11, h12, h13⟩ := w
  have m0 : v (o + 2) = 0 → v (o + 3) = 0 := fun e => by omega
  obtain ⟨v1, v2, v3, v4, v5⟩ := cmV_a (c := cP nm q wt (npI v i q)) m0 hm (show v (o + 3) ≤ 299 by omega) ca1 hg
  have kk : k < cmV v o p g (cP nm q wt (npI v i q)) (o + 3) := by
    apply Classical.byContradiction
    intro z
    have z1 := psm_mo (v := cmV v o p g (cP nm q wt (npI v i q))) (o := o) (show cmV v o p g (cP nm q wt (npI v i q)) (o + 3) ≤ k by omega)
    have z2 := sw.2.2.1
    rw [v1] at z2
    omega
  have hu : psm (cmV v o p g (cP nm q wt (npI v i q))) o (cmV v o p g (cP nm q wt (npI v i q)) (o + 3)) < 2 ^ 30 := by rw [sw.2.2.1, v1]; omega
  have ab1 : ∀ y, p ≤ y → y < v (o + 2) → ahd (cP nm q wt (npI v i q)) (fun t => v (o + 4 + 6 * y + t)) := fun y hy hy2 => by
    have nb : ¬ bef v o y (npI v i q) nm := by
      have np := ca3 (by omega)
      by_cases e : y = p
      · rw [e]; exact np
      · intro z
        have := (s6 p y (by omega) hy2).2
        unfold befP bef at this
        unfold bef at np z
        omega
    have nf := hf y hy2
    unfold bef at nb
    show npI v i q < v (o + 4 + 6 * y + 5) ∨ (npI v i q = v (o + 4 + 6 * y + 5) ∧ nm < v (o + 4 + 6 * y))
    omega
  have ab2 : 0 < p → ¬ ahd (cP nm q wt (npI v i q)) (fun t => v (o + 4 + 6 * (p - 1) + t)) := fun hp => by
    have np := ca2 (p - 1) (by omega)
    unfold bef at np
    show ¬ (npI v i q < v (o + 4 + 6 * (p - 1) + 5) ∨ (npI v i q = v (o + 4 + 6 * (p - 1) + 5) ∧ nm < v (o + 4 + 6 * (p - 1))))
    omega
  obtain ⟨A, u1, u2, u3, u4⟩ := K_cm31 w0 h hm l1 g63.2.1 pc (show npI v i q < 2 ^ 62 from hN) (show nm < 2 ^ 31 by omega) (fun y hy => ⟨hb y hy, by have := (s5 y hy).1; omega⟩) ab1 ab2 none (v (o + 2) - p) (v (o + 2)) (by omega) (Nat.le_refl _) M (FC.rf _ M) (fun x => by unfold shU; rw [if_neg (by omega)]) (fun _ _ _ => rfl) (fun _ _ => rfl)
  have nps : ¬ (fun a => a = ps) r := fun e => n1 e
  have fA : FC (dra r ps sz) M A := u2.wk (fun a e => Or.inr (Or.inl e))
  have tA : q_isT 3 (A.1 r) = true := by rw [u2.1, h1]; rfl
  have eA0 : gR A r 0 = some ps := ((u2.2.2.2.1 r 0 nps).2.2).trans h2
  have tcp : ¬ c = ps := fun e => by have := pc.1; rw [e] at this; omega
  have pcA := pc.fc u2 (fun e => n23 (Or.inr (Or.inl e))) tcp
  have mayA : q_may A (A.1 ps) (some c) = true := by rw [u2.1, h4]; show Nat.beq (A.1 c) 2 = true; rw [pcA.1]; rfl
  have tAp : A.1 ps = 18 := by rw [u2.1]; exact h4
  have lA : A.2.1 ps = M.2.1 ps := by rw [u2.2.1]
  -- M5: the point is in, and there is one more
  have f5 : FC (dra r ps sz) M (stI (stR A ps p (some c)) r 2 (nI (v (o + 2) + 1))) := (fA.sR (Or.inr (Or.inl rfl)) (isc_63 g63.2.1)).sI (Or.inl rfl)
  have z5 : SZ (stI (stR A ps p (some c)) r 2 (nI (v (o + 2) + 1))) r sz (fun x => v (o + 1804 + x)) (v (o + 3)) := by
    refine ⟨by rw [f5.1]; exact h1, ?_, by rw [f5.1]; exact h5, by rw [f5.2.1]; exact h8, by rw [f5.2.1]; exact h9, ?_, fun x hx => ?_⟩
    · rw [gR_stI, gR_stR, if_neg (fun e => n1 e.1)]
      exact ((u2.2.2.2.1 r 1 nps).2.2).trans h3
    · rw [gI_stI, if_neg (by omega)]
      exact (u4 r 3).trans h11
    · rw [gI_stI, if_neg (fun e => n2 e.1.symm)]
      exact (u4 sz x).trans (h13 x hx)
  have r5 : ∀ x, x ≤ v (o + 2) → gR (stI (stR A ps p (some c)) r 2 (nI (v (o + 2) + 1))) ps x = if x < p then gR M ps x else if x = p then some c else gR M ps (x - 1) := fun x hx => by
    rw [gR_stI, gR_stR]
    by_cases e : x = p
    · rw [if_pos ⟨rfl, e⟩, if_neg (by omega), if_pos e]
    · rw [if_neg (fun y => e y.2), u3]
      unfold shU
      by_cases e2 : x < p
      · rw [if_neg (by omega), if_pos e2]
      · rw [if_pos (by omega), if_neg e2, if_neg e]
  have r50 : gR (stI (stR A ps p (some c)) r 2 (nI (v (o + 2) + 1))) r 0 = some ps := by rw [gR_stI, gR_stR, if_neg (fun e => n1 e.1)]; exact eA0
  have i52 : gI (stI (stR A ps p (some c)) r 2 (nI (v (o + 2) + 1))) r 2 = nI (v (o + 2) + 1) := gI_self
  -- what the start comes to
  have st : q_CL 19 [.inr (.inr (some r)), .inr (.inr (some c))] M = q_RL T_X3_come (70, [some (.inr (.inr (some r))), some (.inr (.inr (some c))), some (.inl (nI p)), none], [], A) := by
    rw [C_X3_come]
    have y1 : q_len M ps = some (nI (M.2.1 ps)) := by unfold q_len; rw [if_pos (by omega)]; rfl
    have y2 : q_len M sz = some (nI (M.2.1 sz)) := by unfold q_len; rw [if_pos (by omega)]; rfl
    simp only [w0.f2, w0.f0, Option.bind_some, y1]
    rw [if_neg (nI_ge l1 (by omega))]
    simp only [w0.f3, w0.f1, Option.bind_some, y2]
    rw [if_pos (nI_lt l2 (by omega))]
    exact u1
  have e70 : (q_fR A 3 r 0).bind (fun r1 => r1.bind fun a2 => q_bR A a2 (nI p) (some c)) = some (stR A ps p (some c)) := by
    rw [z_fR tA, eA0]
    simp only [Option.bind_some]
    exact z_bR ⟨by omega, by omega, mayA⟩ lA (by omega) (by omega)
  have bR5 : q_bR A ps (nI p) (some c) = some (stR A ps p (some c)) := z_bR ⟨by omega, by omega, mayA⟩ lA (by omega) (by omega)
  have tB : q_isT 3 ((stR A ps p (some c)).1 r) = true := tA
  have iB : gI (stR A ps p (some c)) r 2 = nI (v (o + 2)) := (u4 r 2).trans h10
  have t5 : q_isT 3 ((stI (stR A ps p (some c)) r 2 (nI (v (o + 2) + 1))).1 r) = true := tA
  -- what is left when the pages are right
  have fin : ∀ B, FC (dra r ps sz) M B → fr (szf r sz) (stI (stR A ps p (some c)) r 2 (nI (v (o + 2) + 1))) B → SZ B r sz (fun x => cmV v o p g (cP nm q wt (npI v i q)) (o + 1804 + x)) (cmV v o p g (cP nm q wt (npI v i q)) (o + 3)) → RWx B r ps sz (cmV v o p g (cP nm q wt (npI v i q))) o := fun B fB rB zB => by
    obtain ⟨b1, b2, b3, b4, b5, b6, b7⟩ := zB
    refine ⟨b1, (rB.gr r 0).trans r50, b2, by rw [fB.1]; exact h4, b3, by rw [v1, fB.2.1]; omega, by rw [fB.2.1]; exact h7, b4, b5, ?_, b6, fun y hy => ?_, b7⟩
    · rw [v1, rB.2.2.2 r 2 (fun z => by rcases z with z | z <;> omega)]
      exact i52
    · rw [v1] at hy
      have ey := v4 y
      rw [rB.gr ps y, r5 y (by omega)]
      by_cases e1 : y < p
      · obtain ⟨d, d1, d2⟩ := h12 y (by omega)
        rw [if_pos e1]
        refine ⟨d, d1, (d2.fc fB n23 (w0.npt d2.1)).cg (fun t ht => ?_)⟩
        show cmV v o p g (cP nm q wt (npI v i q)) (o + 4 + 6 * y + t) = _
        rw [ey t (by omega) ht, if_pos e1]
      · rw [if_neg e1]
        by_cases e2 : y = p
        · rw [if_pos e2]
          refine ⟨c, rfl, (pc.fc fB n23 (w0.npt pc.1)).cg (fun t ht => ?_)⟩
          show cmV v o p g (cP nm q wt (npI v i q)) (o + 4 + 6 * y + t) = _
          rw [ey t (by omega) ht, if_neg e1, if_pos e2]
        · obtain ⟨d, d1, d2⟩ := h12 (y - 1) (by omega)
          rw [if_neg e2]
          refine ⟨d, d1, (d2.fc fB n23 (w0.npt d2.1)).cg (fun t ht => ?_)⟩
          show cmV v o p g (cP nm q wt (npI v i q)) (o + 4 + 6 * y + t) = _
          rw [ey t (by omega) ht, if_neg e1, if_neg e2]
  have szd : ∀ a k, szf r sz a k → dra r ps sz a := fun a k z => by
    rcases z with z | z
    · exact Or.inr (Or.inr z)
    · exact Or.inl z.1
  -- the sums
  by_cases cm : v (o + 2) = 0
  · have P0 := m0 cm
    have p0 : p = 0 := by omega
    have g0 := ca4 p0
    have eP : cmP v o = 1 := by unfold cmP; rw [if_pos cm]
    have eZ : cmZ v o g = 0 := by unfold cmZ; rw [if_pos cm]
    rw [eZ, if_neg (by omega), eP] at v2
    have k0 : k = 0 := by omega
    have e0 : cmV v o p g (cP nm q wt (npI v i q)) (o + 1804 + 0) = 1 := by
      rw [v5 0 (by rw [eZ, if_neg (by omega), eP]; omega), eZ, if_neg (by omega), if_pos g0.symm]
    refine ⟨stI (stI (stI (stR A ps p (some c)) r 2 (nI (v (o + 2) + 1))) r 3 (nI 1)) sz 0 (nI 1), ?_, (f5.sI (Or.inl rfl)).sI (Or.inr (Or.inr rfl)), fin _ ((f5.sI (Or.inl rfl)).sI (Or.inr (Or.inr rfl))) (((fr.rf _ _).st (Or.inr ⟨rfl, rfl⟩)).st (Or.inl rfl)) ?_⟩
    · rw [st, E_X3_come_70, z_fR tA, eA0]
      simp only [Option.bind_some, bR5, z_fI tB, iB, nI_add, z_sI tB, z5.f3]
      rw [P0, if_pos nI_0]
      have b1 : (stI (stI (stR A ps p (some c)) r 2 (nI (v (o + 2) + 1))) r 3 (nI 1)).1 sz = 14 := z5.2.2.1
      have b2 : (stI (stI (stR A ps p (some c)) r 2 (nI (v (o + 2) + 1))) r 3 (nI 1)).2.1 sz = M.2.1 sz := by rw [show (stI (stI (stR A ps p (some c)) r 2 (nI (v (o + 2) + 1))) r 3 (nI 1)).2.1 = A.2.1 from rfl, u2.2.1]
      have b3 : gR (stI (stI (stR A ps p (some c)) r 2 (nI (v (o + 2) + 1))) r 3 (nI 1)) r 1 = some sz := z5.2.1
      have tc5 : q_isT 3 ((stI (stI (stR A ps p (some c)) r 2 (nI (v (o + 2) + 1))) r 3 (nI 1)).1 r) = true := tA
      simp only [z_sI t5, Option.bind_some, z_fR tc5, b3, z_bI b1 b2 (show 0 < M.2.1 sz by omega) (show M.2.1 sz ≤ 2147483647 by omega), k0]
    · rw [v2]
      refine ⟨z5.1, z5.2.1, z5.2.2.1, ?_, z5.2.2.2.2.1, (gI_oth (fun e => n2 e.1)).trans gI_self, fun x hx => ?_⟩
      · show 1 ≤ A.2.1 sz
        rw [u2.2.1]; omega
      · have x0 : x = 0 := by omega
        subst x0
        show gI _ sz 0 = nI (cmV v o p g (cP nm q wt (npI v i q)) (o + 1804 + 0))
        rw [e0]
        exact gI_self
  · have eP : cmP v o = v (o + 3) := by unfold cmP; rw [if_neg cm]
    have eZ : ∀ x, cmZ v o x = v (o + 1804 + x) := fun x => by unfold cmZ; rw [if_neg cm]
    have P0 : v (o + 3) ≠ 0 := fun e => by rw [e] at s3; exact cm s3.symm
    rw [eP] at hg v2 v5
    rw [eZ g] at v2 v5
    have uz : ∀ x, x < cmV v o p g (cP nm q wt (npI v i q)) (o + 3) → cmV v o p g (cP nm q wt (npI v i q)) (o + 1804 + x) = cmZz (fun x => v (o + 1804 + x)) g x := fun x hx => by
      rw [v5 x (by rw [← v2]; exact hx)]
      unfold cmZz
      rw [eZ x, eZ (x - 1)]
    have hkg : v (o + 1804 + g) + 1 ≠ 17 → k = g := fun n17 => by
      have q1 : psm (cmV v o p g (cP nm q wt (npI v i q))) o g = psm v o g := psm_cg g (fun j hj => by
        rw [v5 j (by rw [if_neg n17]; omega), if_neg n17, if_neg (by omega), eZ])
      have q2 : psm (cmV v o p g (cP nm q wt (npI v i q))) o (g + 1) = psm v o g + (v (o + 1804 + g) + 1) := by
        show psm (cmV v o p g (cP nm q wt (npI v i q))) o g + cmV v o p g (cP nm q wt (npI v i q)) (o + 1804 + g) = _
        rw [q1, v5 g (by rw [if_neg n17]; exact hg), if_neg n17, if_pos rfl]
      have q3 : psm v o (g + 1) = psm v o g + v (o + 1804 + g) := rfl
      have q4 : psm v o g ≤ p ∧ p < psm v o g + (v (o + 1804 + g) + 1) := by
        by_cases p0 : p = 0
        · rw [ca4 p0, p0]
          exact ⟨Nat.le_refl _, by omega⟩
        · have := ca5 (by omega)
          omega
      apply Classical.byContradiction
      intro ne
      by_cases lt : k < g
      · have := psm_mo (v := cmV v o p g (cP nm q wt (npI v i q))) (o := o) (show k + 1 ≤ g by omega)
        omega
      · have := psm_mo (v := cmV v o p g (cP nm q wt (npI v i q))) (o := o) (show g + 1 ≤ k by omega)
        omega
    obtain ⟨B, w1, w2, w3⟩ := K_cm123 (c := c) z5 (show v (o + 3) < (stI (stR A ps p (some c)) r 2 (nI (v (o + 2) + 1))).2.1 sz by rw [f5.2.1]; exact l2) (by omega) hg (fun x hx => (s4 x hx).2) v2 uz kk ca6 ca7 hu hkg none
    refine ⟨B, ?_, f5.fr w2 szd, fin B (f5.fr w2 szd) w2 w3⟩
    rw [st, E_X3_come_70, z_fR tA, eA0]
    rw [E_X3_come_123] at w1
    simp only [Option.bind_some, bR5, z_fI tB, iB, nI_add, z_sI tB, z5.f3]
    rw [if_neg (nI_ne0 (by omega) (by omega))]
    by_cases p0 : p = 0
    · rw [p0, if_pos nI_0]
      rw [p0, ca4 p0] at w1
      exact w1
    · rw [if_neg (nI_ne0 (by omega) (by omega))]
      obtain ⟨x1, x2, x3⟩ := ca5 (by omega)
      have pg := K_pgZ z5 (by omega) x1 x2 x3 (by rw [s3]; omega)
      simp only [z_sel z5.1, Option.bind_some, pk_sub (show 1 ≤ p by omega), pg, z_rI]
      exact w1
