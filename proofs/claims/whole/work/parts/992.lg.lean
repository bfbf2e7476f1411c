/-! ===== THE CLASS: nearest ===== -/
def NQ (M : q_M) (f wh fa : Nat) (v : Nat → Nat) (o : Nat) (g : Nat → Nat) (wy : Nat) (E : Nat → Bool) (most rd : Nat) : Prop := FQ M f wh fa (if cnt E (v (o + 2)) < most then cnt E (v (o + 2)) else most) (fun r t => v (o + 4 + 6 * elt (kL v o g wy) (v (o + 2)) E r + t)) (fun r => dsP v o g wy (elt (kL v o g wy) (v (o + 2)) E r)) rd
theorem NQ.cg {M : q_M} {f wh fa : Nat} {v : Nat → Nat} {o : Nat} {g : Nat → Nat} {wy : Nat} {E F : Nat → Bool} {most rd : Nat} (h : NQ M f wh fa v o g wy E most rd) (e : ∀ i, i < v (o + 2) → F i = E i) : NQ M f wh fa v o g wy F most rd := by
  unfold NQ at h ⊢
  rw [cnt_cg (v (o + 2)) e]
  refine h.cg (fun r _ => ?_)
  rw [elt_cgE e r]
  exact ⟨rfl, rfl⟩
theorem rk_le {K : Nat → Nat → Bool} {m : Nat} (o : Ord K m) {E : Nat → Bool} {i j : Nat} (hi : i < m) (hj : j < m) (k : K i j = true) : rk K m E i ≤ rk K m E j := cnt_le m (fun x hx e => by
  rw [Bool.and_eq_true] at e ⊢
  exact ⟨e.1, o.2.2 x i j hx hi hj e.2 k⟩)
theorem kL_t {v : Nat → Nat} {o : Nat} {g : Nat → Nat} {wy i j : Nat} : kL v o g wy i j = true ↔ (dsP v o g wy i < dsP v o g wy j ∨ (dsP v o g wy i = dsP v o g wy j ∧ v (o + 4 + 6 * i) < v (o + 4 + 6 * j))) := by unfold kL; rw [decide_eq_true_eq]
theorem K_ofE {M : q_M} {f wh fa Z rd c i lim most wy : Nat} {v : Nat → Nat} {ic o : Nat} {g : Nat → Nat} {E : Nat → Bool} (h : SH M) (s : FS M f wh fa Z) (sw : SW v ic o) (hc : okI v ic) (hg : ∀ a, a < 3 → g a < 2 ^ 20) (q : NQ M f wh fa v o g wy E most rd) (hl : lim ≤ 300) (hm : most = if Z < lim then Z else lim) (hi : i < v (o + 2)) (ei : E i = false) (pc : PO M c (fun t => v (o + 4 + 6 * i + t))) : ∃ M1, q_CL 10 [.inr (.inr (some f)), .inr (.inr (some c)), .inr (.inl (lN (dsP v o g wy i))), .inl (nI lim)] M = some (none, M1) ∧ FC (fdc f wh fa) M M1 ∧ NQ M1 f wh fa v o g wy (adE E i) most rd ∧ FS M1 f wh fa Z := by
  have oR : Ord (kL v o g wy) (v (o + 2)) := kL_o fun p q hp hq => (sw.2.2.2.2.2 p q hp hq).1
  have lec : rk (kL v o g wy) (v (o + 2)) E i ≤ cnt E (v (o + 2)) := cnt_le _ (fun x hx e => by rw [Bool.and_eq_true] at e; exact e.1)
  have ca := cnt_adE ei (v (o + 2))
  rw [if_pos hi] at ca
  have nb : ∀ p, p < v (o + 2) → dsP v o g wy p < 2 ^ 62 ∧ v (o + 4 + 6 * p) < 2 ^ 31 := fun p hp => by
    have := dsP_b (v := v) (o := o) (g := g) (wy := wy) (p := p) (fun a ha => sw.pt hc hp ha) hg
    have := (sw.2.2.2.2.1 p hp).1
    omega
  have hd : ∀ r, r < (if cnt E (v (o + 2)) < most then cnt E (v (o + 2)) else most) → dsP v o g wy (elt (kL v o g wy) (v (o + 2)) E r) < 2 ^ 62 ∧ (fun r t => v (o + 4 + 6 * elt (kL v o g wy) (v (o + 2)) E r + t)) r 0 < 2 ^ 31 := fun r hr => nb _ (elt_ok oR (by split at hr <;> omega)).1
  have aft : ∀ r, r < cnt E (v (o + 2)) → rk (kL v o g wy) (v (o + 2)) E i ≤ r → bfr (dsP v o g wy i) (fun t => v (o + 4 + 6 * i + t)) (dsP v o g wy (elt (kL v o g wy) (v (o + 2)) E r)) ((fun r t => v (o + 4 + 6 * elt (kL v o g wy) (v (o + 2)) E r + t)) r) := fun r hr hk => by
    obtain ⟨a1, a2, a3⟩ := elt_ok oR hr
    have ne : i ≠ elt (kL v o g wy) (v (o + 2)) E r := fun z => by rw [← z, ei] at a2; cases a2
    rcases oR.2.1 i _ hi a1 ne with k | k
    · exact kL_t.mp k
    · have := rk_lt oR (E := E) a1 hi a2 k
      omega
  have nbf : ∀ r, r < cnt E (v (o + 2)) → r < rk (kL v o g wy) (v (o + 2)) E i → ¬ bfr (dsP v o g wy i) (fun t => v (o + 4 + 6 * i + t)) (dsP v o g wy (elt (kL v o g wy) (v (o + 2)) E r)) ((fun r t => v (o + 4 + 6 * elt (kL v o g wy) (v (o + 2)) E r + t)) r) := fun r hr hk z => by
    obtain ⟨a1, a2, a3⟩ := elt_ok oR hr
    have := rk_le oR (E := E) hi a1 (kL_t.mpr z)
    omega
  by_cases cs : rk (kL v o g wy) (v (o + 2)) E i < most
  · obtain ⟨M1, u1, u2, u3, u4⟩ := (K_offer (p := rk (kL v o g wy) (v (o + 2)) E i) h s q hl hm (by split <;> omega) pc (by split <;> omega) (nb i hi).1 hd (nb i hi).2 (fun r hr hr2 => aft r (by split at hr2 <;> omega) hr) (fun hp => nbf _ (by omega) (by omega))).2 cs
    refine ⟨M1, u1, u2, ?_, u4⟩
    unfold NQ
    have en : (if cnt (adE E i) (v (o + 2)) < most then cnt (adE E i) (v (o + 2)) else most) = (if (if cnt E (v (o + 2)) < most then cnt E (v (o + 2)) else most) < most then (if cnt E (v (o + 2)) < most then cnt E (v (o + 2)) else most) + 1 else most) := by
      rw [ca]
      repeat' split
      all_goals omega
    rw [en]
    refine u3.cg (fun r hr => ?_)
    have hr' : r < cnt E (v (o + 2)) + 1 := by repeat' split at hr
                                               all_goals omega
    rw [elt_adE oR hi ei hr']
    unfold inP inD
    by_cases c1 : r < rk (kL v o g wy) (v (o + 2)) E i
    · rw [if_pos c1, if_pos c1, if_pos c1]; exact ⟨rfl, rfl⟩
    · rw [if_neg c1, if_neg c1, if_neg c1]
      by_cases c2 : r = rk (kL v o g wy) (v (o + 2)) E i
      · rw [if_pos c2, if_pos c2, if_pos c2]; exact ⟨rfl, rfl⟩
      · rw [if_neg c2, if_neg c2, if_neg c2]; exact ⟨rfl, rfl⟩
  · have hnm : (if cnt E (v (o + 2)) < most then cnt E (v (o + 2)) else most) = most := by split <;> omega
    have u := (K_offer (p := most) h s q hl hm (by split <;> omega) pc (by split <;> omega) (nb i hi).1 hd (nb i hi).2 (fun r hr hr2 => by rw [hnm] at hr2; omega) (fun hp => nbf _ (by omega) (by omega))).1 (Nat.le_refl _)
    refine ⟨M, u, FC.rf _ M, ?_, s⟩
    unfold NQ at q ⊢
    have en : (if cnt (adE E i) (v (o + 2)) < most then cnt (adE E i) (v (o + 2)) else most) = (if cnt E (v (o + 2)) < most then cnt E (v (o + 2)) else most) := by
      rw [ca]
      repeat' split
      all_goals omega
    rw [en]
    refine q.cg (fun r hr => ?_)
    rw [hnm] at hr
    rw [elt_adE oR hi ei (by omega), if_pos (by omega)]
    exact ⟨rfl, rfl⟩
def pgE (E : Nat → Bool) (a y i : Nat) : Bool := E i || decide (a ≤ i ∧ i < y)
theorem pgE_s {E : Nat → Bool} {a y : Nat} (h : a ≤ y) : adE (pgE E a y) y = pgE E a (y + 1) := by
  funext i
  unfold adE pgE
  by_cases e : i = y
  · rw [if_pos e, e]
    have : decide (a ≤ y ∧ y < y + 1) = true := by rw [decide_eq_true_eq]; omega
    rw [this, Bool.or_true]
  · rw [if_neg e]
    have : decide (a ≤ i ∧ i < y) = decide (a ≤ i ∧ i < y + 1) := by
      apply decide_eq_decide.mpr
      omega
    rw [this]
def nrP (f wh fa a : Nat) : Prop := s39 a ∨ fdc f wh fa a
theorem nrP_63 {M : q_M} {f wh fa Z : Nat} (s : FS M f wh fa Z) (h : SH M) : ∀ a, nrP f wh fa a → a < 63 ∧ a ≠ 23 := fun a z => by
  have s9 := s.2.2.2.2.2.2.2.2.1
  have n23 := s.n23 h
  rcases z with z | z
  · exact s39_63 a z
  · refine ⟨by rcases z with z | z | z <;> omega, fun e => n23 (by rw [← e]; exact z)⟩
/-- search's cells and finds' are apart -/
def sfa (f wh fa : Nat) : Prop := ∀ a, s39 a → ¬ fdc f wh fa a
theorem onR_s {v : Nat → Nat} {o : Nat} {rd : Nat → Bool} {k P : Nat} (hk : k < P) {i : Nat} (hi : i < psm v o P) (hx : ∃ g, g < P ∧ psm v o g ≤ i ∧ i < psm v o (g + 1)) : onR v o (fun x => if x = k then true else rd x) i P = pgE (fun i => onR v o rd i P) (psm v o k) (psm v o (k + 1)) i := by
  obtain ⟨g, g1, g2⟩ := hx
  unfold pgE
  show _ = (onR v o rd i P || _)
  rw [onR_at g2, onR_at g2]
  by_cases e : g = k
  · subst e
    have : decide (psm v o g ≤ i ∧ i < psm v o (g + 1)) = true := by rw [decide_eq_true_eq]; exact g2
    simp [this, g1]
  · have : decide (psm v o k ≤ i ∧ i < psm v o (k + 1)) = false := by
      rw [decide_eq_false_iff_not]
      intro z
      exact e (pgAt_eq g2 z)
    simp [this, e]
theorem pg_ex {v : Nat → Nat} {o i : Nat} : ∀ P, i < psm v o P → ∃ g, g < P ∧ psm v o g ≤ i ∧ i < psm v o (g + 1)
  | 0, h => by
    have : psm v o 0 = 0 := rfl
    omega
  | P + 1, h => by
    by_cases c : i < psm v o P
    · obtain ⟨g, g1, g2⟩ := pg_ex P c
      exact ⟨g, by omega, g2⟩
    · exact ⟨P, by omega, by omega, h⟩
theorem K_rdPg {M0 : q_M} {f wh fa Z t k lim most wy : Nat} {r ps sz : Nat} {v : Nat → Nat} {ic o : Nat} {g : Nat → Nat} {rd : Nat → Bool} (h0 : SH M0) (s0 : FS M0 f wh fa Z) (ap : sfa f wh fa) (w0 : RWx M0 r ps sz v o) (st : ST M0 r ∧ ST M0 ps ∧ ST M0 sz) (sw : SW v ic o) (hc : okI v ic) (sa0 : SA M0 g wy) (q0 : NQ M0 f wh fa v o g wy (fun i => onR v o rd i (v (o + 3))) most t) (rr0 : RD M0 rd (v (o + 3))) (hl : lim ≤ 300) (hm : most = if Z < lim then Z else lim) (hk : k < v (o + 3)) (uk : rd k = false) : ∃ M1, q_CL 36 [.inr (.inr (some 39)), .inr (.inr (some r)), .inl (nI k), .inl (nI lim), .inr (.inr (some f))] M0 = some (none, M1) ∧ FC (nrP f wh fa) M0 M1 ∧ FS M1 f wh fa Z ∧ SA M1 g wy ∧ (∀ x, gL M1 40 x = gL M0 40 x) ∧ RD M1 (fun x => if x = k then true else rd x) (v (o + 3)) ∧ NQ M1 f wh fa v o g wy (fun i => onR v o (fun x => if x = k then true else rd x) i (v (o + 3))) most (t + 1) := by
  have s1 := sw.1
  have s2 := sw.2.1
  have hg : ∀ a, a < 3 → g a < 2 ^ 20 := fun a ha => (sa0.1 a ha).2
  have k1 : (nI 1) &&& 1 = nI 1 := by decide +kernel
  have i0 := s0.is
  have n39 : ¬ fdc f wh fa 39 := ap 39 (Or.inl rfl)
  have n40 : ¬ fdc f wh fa 40 := ap 40 (Or.inr (Or.inl rfl))
  have n41 : ¬ fdc f wh fa 41 := ap 41 (Or.inr (Or.inr rfl))
  have nf : f ≠ 41 := fun e => n41 (Or.inl e.symm)
  have nwh : wh ≠ 41 := fun e => n41 (Or.inr (Or.inl e.symm))
  have nfa : fa ≠ 41 := fun e => n41 (Or.inr (Or.inr e.symm))
  have pn := sw.pn hk
  have P63 := nrP_63 s0 h0
  -- marked, and counted
  have fB : FC (nrP f wh fa) M0 (stI (stI M0 41 k (nI 1)) f 3 (nI (t + 1))) := ((FC.rf (nrP f wh fa) M0).sI (Or.inl (Or.inr (Or.inr rfl)))).sI (Or.inr (Or.inl rfl))
  have sB : FS (stI (stI M0 41 k (nI 1)) f 3 (nI (t + 1))) f wh fa Z := s0.fc fB rfl rfl
  have qB : NQ (stI (stI M0 41 k (nI 1)) f 3 (nI (t + 1))) f wh fa v o g wy (pgE (fun i => onR v o rd i (v (o + 3))) (psm v o k) (psm v o k)) most (t + 1) := by
    have e : ∀ i, i < v (o + 2) → pgE (fun i => onR v o rd i (v (o + 3))) (psm v o k) (psm v o k) i = (fun i => onR v o rd i (v (o + 3))) i := fun i hi => by
      unfold pgE
      have : decide (psm v o k ≤ i ∧ i < psm v o k) = false := by rw [decide_eq_false_iff_not]; omega
      rw [this, Bool.or_false]
    refine NQ.cg ?_ e
    refine ⟨?_, gI_self, fun r' hr => ?_⟩
    · rw [gI_oth (by omega), gI_oth (fun z => nf z.1)]; exact q0.1
    · obtain ⟨a, c, b1, b2⟩ := q0.2.2 r' hr
      exact ⟨a, c, b1, b2.kp (fB.kp P63)⟩
  have rB : RD (stI (stI M0 41 k (nI 1)) f 3 (nI (t + 1))) (fun x => if x = k then true else rd x) (v (o + 3)) := fun x hx => by
    rw [gI_oth (fun z => nf z.1.symm), gI_stI]
    by_cases e : x = k
    · rw [if_pos ⟨rfl, e⟩]; simp only [if_pos e]; rfl
    · rw [if_neg (fun z => e z.2)]; simp only [if_neg e]; exact rr0 x hx
  have saB : SA (stI (stI M0 41 k (nI 1)) f 3 (nI (t + 1))) g wy := by
    have nf39 : f ≠ 39 := fun e => n39 (Or.inl e.symm)
    exact ⟨fun a ha => ⟨(gI_oth (fun z => nf39 z.1.symm)).trans ((gI_oth (by omega)).trans (sa0.1 a ha).1), (sa0.1 a ha).2⟩, (gI_oth (fun z => nf39 z.1.symm)).trans ((gI_oth (by omega)).trans sa0.2.1), sa0.2.2⟩
  have key : ∀ n y, y + n = psm v o (k + 1) → psm v o k ≤ y → ∀ A, FC (fdc f wh fa) (stI (stI M0 41 k (nI 1)) f 3 (nI (t + 1))) A → FS A f wh fa Z → NQ A f wh fa v o g wy (pgE (fun i => onR v o rd i (v (o + 3))) (psm v o k) y) most (t + 1) → ∃ M1, q_RL T_X4_readPage (29, [some (.inr (.inr (some 39))), some (.inr (.inr (some r))), some (.inl (nI k)), some (.inl (nI lim)), some (.inr (.inr (some f))), some (.inl (nI (psm v o k))), some (.inl (nI y))], [], A) = some (none, M1) ∧ FC (fdc f wh fa) (stI (stI M0 41 k (nI 1)) f 3 (nI (t + 1))) M1 ∧ FS M1 f wh fa Z ∧ NQ M1 f wh fa v o g wy (pgE (fun i => onR v o rd i (v (o + 3))) (psm v o k) (psm v o (k + 1))) most (t + 1) := by
    have ep : psm v o k + v (o + 1804 + k) = psm v o (k + 1) := rfl
    intro n
    induction n with
    | zero =>
      intro y hy hky A fA sA qA
      have w := w0.fc (fB.tr (fA.wk (fun _ z => Or.inr z))) P63 st.1 st.2.1 st.2.2
      have ey : y = psm v o (k + 1) := by omega
      refine ⟨A, ?_, fA, sA, by rw [← ey]; exact qA⟩
      rw [E_X4_readPage_29]
      simp only [Option.bind_some, w.f1, w.sz hk, nI_add, ep]
      rw [if_pos (nI_le (by omega) (by omega))]
    | succ n ih =>
      intro y hy hky A fA sA qA
      have fA0 := fB.tr (fA.wk (fun _ z => Or.inr z))
      have w := w0.fc fA0 P63 st.1 st.2.1 st.2.2
      have hA := fA0.sh h0
      have saA : SA A g wy := saB.fc fA n39
      have hy2 : y < v (o + 2) := by omega
      obtain ⟨c, c1, c2⟩ := w.pt hy2
      have ef : pgE (fun i => onR v o rd i (v (o + 3))) (psm v o k) y y = false := by
        unfold pgE
        show (onR v o rd y (v (o + 3)) || _) = false
        rw [onR_at (g := k) ⟨hky, by omega⟩, uk]
        simp
      obtain ⟨B, b1, b2, b3, b4⟩ := K_ofE hA sA sw hc hg qA hl hm hy2 ef c2
      rw [pgE_s hky] at b3
      obtain ⟨M1, u1, u2, u3, u4⟩ := ih (y + 1) (by omega) (by omega) B (fA.tr b2) b4 b3
      refine ⟨M1, ?_, u2, u3, u4⟩
      have far := K_far hA saA c2 (fun a ha => sw.pt hc hy2 ha)
      rw [E_X4_readPage_29]
      simp only [Option.bind_some, w.f1, w.sz hk, nI_add, ep]
      rw [if_neg (nI_ge (by omega) (by omega))]
      simp only [w.f0, Option.bind_some, c1, s39_sel hA, far, z_rL, z_sel sA.1, b1, z_rV, nI_1]
      exact u1
  obtain ⟨M1, u1, u2, u3, u4⟩ := key (psm v o (k + 1) - psm v o k) (psm v o k) (by have := psm_mo (v := v) (o := o) (show k ≤ k + 1 by omega); omega) (Nat.le_refl _) _ (FC.rf _ _) sB qB
  have fall := fB.tr (u2.wk (fun _ z => (Or.inr z : nrP f wh fa _)))
  refine ⟨M1, ?_, fall, u3, saB.fc u2 n39, fun x => (u2.2.2.2.1 40 x n40).2.1, fun x hx => ((u2.2.2.2.1 41 x n41).1).trans (rB x hx), u4.cg (fun i hi => onR_s hk (by rw [sw.2.2.1]; exact hi) (pg_ex _ (by rw [sw.2.2.1]; exact hi)))⟩
  have h1 : SH (stI M0 41 k (nI 1)) := h0
  have i1 : q_isT 1 ((stI M0 41 k (nI 1)).1 f) = true := i0
  have g1 : gI (stI M0 41 k (nI 1)) f 3 = nI t := (gI_oth (fun z => nf z.1)).trans q0.2.1
  have w1 := w0.fc fB P63 st.1 st.2.1 st.2.2
  rw [C_X4_readPage]
  simp only [f39 h0 (show (39, 1, 41) ∈ q_crs by decide), Option.bind_some, k1, b41 h0 (show k < 300 by omega), z_fI i1, g1, nI_add, z_sI i1, w1.sel, K_start w1 (Nat.le_trans sw.2.1 sw.1) (show k ≤ v (o + 3) by omega), z_rI]
  exact u1
