/-! ===== THE CLASS: a point goes from a row in the making ===== -/
def gsSz (v : Nat → Nat) (o g : Nat) (x : Nat) : Nat := gsS v o g x
theorem K_go128 {M : q_M} {r sz P : Nat} {z : Nat → Nat} (h : SZ M r sz z P) (hP : P ≤ 300) {g : Nat} (hg : g < P) (hz : ∀ k, k < P → z k ≤ 16) {x1 x3 : Int32} : ∃ M1, q_RL T_X3_go (128, [some (.inr (.inr (some r))), some (.inl x1), some (.inl (nI g)), some (.inl x3)], [], M) = some (none, M1) ∧ fr (szf r sz) M M1 ∧ (0 < g ∧ z (g - 1) + z g ≤ 10 → SZ M1 r sz (mlZ z (g - 1)) (P - 1)) ∧ (¬ (0 < g ∧ z (g - 1) + z g ≤ 10) → SZ M1 r sz z P) := by
  rw [E_X3_go_128]
  by_cases c : g = 0
  · rw [c, if_pos (by rw [nI_0]; decide)]
    exact ⟨M, rfl, fr.rf _ M, fun e => by omega, fun _ => h⟩
  rw [if_neg (nI_nle (by omega) (by omega))]
  have z1 := hz (g - 1) (by omega)
  have z2 := hz g hg
  simp only [h.f1, Option.bind_some, pk_sub (show 1 ≤ g by omega), h.g (show g - 1 < P by omega), h.g hg, nI_add]
  by_cases d : z (g - 1) + z g ≤ 10
  · rw [if_neg (nI_nlt d (by omega))]
    obtain ⟨M1, u1, u2, u3⟩ := K_meltP h (g := g - 1) (by omega)
    exact ⟨M1, by simp only [z_sel h.1, Option.bind_some, u1, z_rV], u2, fun _ => u3, fun e => absurd ⟨by omega, d⟩ e⟩
  · rw [if_pos (nI_lt (by omega) (by omega))]
    exact ⟨M, rfl, fr.rf _ M, fun e => absurd e.2 d, fun _ => h⟩
def shD (M : q_M) (ps p j x : Nat) : Option Nat := if p ≤ x ∧ x < j then gR M ps (x + 1) else gR M ps x
theorem K_go {v : Nat → Nat} {i o p g : Nat} (s : SW v i o) (hp : p < v (o + 2)) (pa : pgAt v o p g) {M : q_M} {r ps sz : Nat} (h : SH M) (w : RWx M r ps sz v o) (g63 : 63 ≤ r ∧ 63 ≤ ps ∧ 63 ≤ sz) : ∃ M1, q_CL 20 [.inr (.inr (some r)), .inl (nI p)] M = some (none, M1) ∧ FC (dra r ps sz) M M1 ∧ RWx M1 r ps sz (gsV v o p g) o := by
  obtain ⟨s1, s2, s3, s4, s5, s6⟩ := s
  obtain ⟨n1, n2, n3⟩ := w.nd
  have n23 := w.n23 h
  have w0 := w
  have zz := w.zz
  have hg := pa.1
  obtain ⟨v1, v2, v3, v4, v5⟩ := gsV_a (p := p) (g := g) s1 (show v (o + 3) ≤ 300 by omega) hp hg
  obtain ⟨h1, h2, h3, h4, h5, h6, h7, h8, h9, h10, h11, h12, h13⟩ := w
  rw [C_X3_go]
  simp only [w0.sel, Option.bind_some, K_pgOf w0 (by omega) pa (by rw [s3]; omega), z_rI]
  rw [if_pos (nI_pos' (by omega))]
  have szd : ∀ a k, szf r sz a k → dra r ps sz a := fun a k z => by
    rcases z with z | z
    · exact Or.inr (Or.inr z)
    · exact Or.inl z.1
  have key : ∀ n j, j + n = v (o + 2) - 1 → p ≤ j → ∀ A, FC (fun a => a = ps) M A → (∀ x, x < v (o + 2) → gR A ps x = shD M ps p j x) → (∀ a k, a ≠ ps → gR A a k = gR M a k) → (∀ a k, gI A a k = gI M a k) → ∃ M1, q_RL T_X3_go (13, [some (.inr (.inr (some r))), some (.inl (nI p)), some (.inl (nI g)), some (.inl (nI j))], [], A) = some (none, M1) ∧ FC (dra r ps sz) M M1 ∧ RWx M1 r ps sz (gsV v o p g) o := by
    intro n
    induction n with
    | succ n ih =>
      intro j hj hpj A f a1 a2 a3
      have tr : q_isT 3 (A.1 r) = true := by rw [f.1, h1]; rfl
      have tp : A.1 ps = 18 := by rw [f.1]; exact h4
      have lA : A.2.1 ps = M.2.1 ps := by rw [f.2.1]
      obtain ⟨y, y1, y2⟩ := h12 (j + 1) (by omega)
      have ty : ¬ y = ps := fun e => by have := y2.1; rw [e] at this; omega
      have e0 : gR A r 0 = some ps := by rw [a2 r 0 n1]; exact h2
      have e1 : gR A ps (j + 1) = some y := by rw [a1 _ (by omega)]; unfold shD; rw [if_neg (by omega)]; exact y1
      have e2 : gI A r 2 = nI (v (o + 2)) := (a3 r 2).trans h10
      have ym := y2.fc f (fun e => n23 (Or.inr (Or.inl e))) ty
      have may : q_may A (A.1 ps) (some y) = true := by rw [tp]; show Nat.beq (A.1 y) 2 = true; rw [ym.1]; rfl
      obtain ⟨M1, u1, u2, u3⟩ := ih (j + 1) (by omega) (by omega) (stR A ps j (some y)) (f.sR rfl (isc_63 g63.2.1)) (fun x hx => by
        rw [gR_stR]
        unfold shD
        by_cases z : x = j
        · rw [if_pos ⟨rfl, z⟩, if_pos (by omega), z]; exact y1.symm
        · rw [if_neg (fun e => z e.2), a1 x hx]
          unfold shD
          by_cases z2 : p ≤ x ∧ x < j
          · rw [if_pos z2, if_pos (by omega)]
          · rw [if_neg z2, if_neg (by omega)]) (fun a k ha => by rw [gR_stR, if_neg (fun e => ha e.1)]; exact a2 a k ha) a3
      refine ⟨M1, ?_, u2, u3⟩
      rw [E_X3_go_13]
      simp only [z_fI tr, e2, Option.bind_some, pk_sub (show 1 ≤ v (o + 2) by omega)]
      rw [if_neg (nI_ge (by omega) (by omega))]
      simp only [z_fR tr, e0, Option.bind_some, nI_add, z_aR (show 17 ≤ A.1 ps ∧ A.1 ps ≤ 22 by omega) lA (show j + 1 < M.2.1 ps by omega) (show M.2.1 ps ≤ 2147483647 by omega), e1, z_bR (v := some y) ⟨show 17 ≤ A.1 ps by omega, show A.1 ps ≤ 21 by omega, may⟩ lA (show j < M.2.1 ps by omega) (show M.2.1 ps ≤ 2147483647 by omega), nI_1]
      exact u1
    | zero =>
      intro j hj hpj A f a1 a2 a3
      rw [Nat.add_zero] at hj
      subst hj
      have fA : FC (dra r ps sz) M A := f.wk (fun a e => Or.inr (Or.inl e))
      have tr : q_isT 3 (A.1 r) = true := by rw [f.1, h1]; rfl
      have tp : A.1 ps = 18 := by rw [f.1]; exact h4
      have lA : A.2.1 ps = M.2.1 ps := by rw [f.2.1]
      have e0 : gR A r 0 = some ps := by rw [a2 r 0 n1]; exact h2
      have e2 : gI A r 2 = nI (v (o + 2)) := (a3 r 2).trans h10
      have f7 : FC (dra r ps sz) M (stR (stI A r 2 (nI (v (o + 2) - 1))) ps (v (o + 2) - 1) none) := (fA.sI (Or.inl rfl)).sR (Or.inr (Or.inl rfl)) (isc_63 g63.2.1)
      have z7 : SZ (stR (stI A r 2 (nI (v (o + 2) - 1))) ps (v (o + 2) - 1) none) r sz (fun x => v (o + 1804 + x)) (v (o + 3)) := by
        refine ⟨by rw [f7.1]; exact h1, ?_, by rw [f7.1]; exact h5, by rw [f7.2.1]; exact h8, by rw [f7.2.1]; exact h9, ?_, fun x hx => ?_⟩
        · rw [gR_stR, if_neg (fun e => n1 e.1)]
          exact (a2 r 1 n1).trans h3
        · rw [gI_stR, gI_stI, if_neg (by omega)]
          exact (a3 r 3).trans h11
        · rw [gI_stR, gI_stI, if_neg (fun e => n2 e.1.symm)]
          exact (a3 sz x).trans (h13 x hx)
      have zg := s4 g hg
      have z12 := (z7.w (k := g) (n := v (o + 1804 + g) - 1)).cg (y := gsSz v o g) (fun x hx => by
        unfold gsSz gsS wZ
        rfl)
      have f12 : FC (dra r ps sz) M (stI (stR (stI A r 2 (nI (v (o + 2) - 1))) ps (v (o + 2) - 1) none) sz g (nI (v (o + 1804 + g) - 1))) := f7.sI (Or.inr (Or.inr rfl))
      have r12 : ∀ x, x < v (o + 2) - 1 → gR (stI (stR (stI A r 2 (nI (v (o + 2) - 1))) ps (v (o + 2) - 1) none) sz g (nI (v (o + 1804 + g) - 1))) ps x = if x < p then gR M ps x else gR M ps (x + 1) := fun x hx => by
        rw [gR_stI, gR_stR, if_neg (by omega), gR_stI, a1 x (by omega)]
        unfold shD
        by_cases z : x < p
        · rw [if_neg (by omega), if_pos z]
        · rw [if_pos (by omega), if_neg z]
      have r120 : gR (stI (stR (stI A r 2 (nI (v (o + 2) - 1))) ps (v (o + 2) - 1) none) sz g (nI (v (o + 1804 + g) - 1))) r 0 = some ps := by
        rw [gR_stI, gR_stR, if_neg (fun e => n1 e.1)]; exact e0
      have i122 : gI (stI (stR (stI A r 2 (nI (v (o + 2) - 1))) ps (v (o + 2) - 1) none) sz g (nI (v (o + 1804 + g) - 1))) r 2 = nI (v (o + 2) - 1) := by
        rw [gI_stI, if_neg (fun e => n2 e.1), gI_stR]; exact gI_self
      -- the way there
      have t3 : q_isT 3 ((stI A r 2 (nI (v (o + 2) - 1))).1 r) = true := tr
      have e3 : gR (stI A r 2 (nI (v (o + 2) - 1))) r 0 = some ps := e0
      have i3 : gI (stI A r 2 (nI (v (o + 2) - 1))) r 2 = nI (v (o + 2) - 1) := gI_self
      have b7 : q_bR (stI A r 2 (nI (v (o + 2) - 1))) ps (nI (v (o + 2) - 1)) none = some (stR (stI A r 2 (nI (v (o + 2) - 1))) ps (v (o + 2) - 1) none) := z_bR ⟨show 17 ≤ A.1 ps by omega, show A.1 ps ≤ 21 by omega, rfl⟩ (show (stI A r 2 (nI (v (o + 2) - 1))).2.1 ps = M.2.1 ps from lA) (by omega) (by omega)
      have b12 : q_bI (stR (stI A r 2 (nI (v (o + 2) - 1))) ps (v (o + 2) - 1) none) 14 sz (nI g) (nI (v (o + 1804 + g) - 1)) = some (stI (stR (stI A r 2 (nI (v (o + 2) - 1))) ps (v (o + 2) - 1) none) sz g (nI (v (o + 1804 + g) - 1))) := z7.b (by rw [f7.2.1]; omega)
      rw [E_X3_go_13]
      simp only [z_fI tr, e2, Option.bind_some, pk_sub (show 1 ≤ v (o + 2) by omega)]
      rw [if_pos (nI_le (Nat.le_refl _) (by omega))]
      simp only [z_sI tr, Option.bind_some, z_fR t3, e3, z_fI t3, i3, b7, z7.f1, z7.g hg, pk_sub (show 1 ≤ v (o + 1804 + g) from zg.1), b12]
      generalize stI (stR (stI A r 2 (nI (v (o + 2) - 1))) ps (v (o + 2) - 1) none) sz g (nI (v (o + 1804 + g) - 1)) = B at *
      have fin : ∀ D, fr (szf r sz) B D → SZ D r sz (gsK v o g) (gsP v o g) → FC (dra r ps sz) M D ∧ RWx D r ps sz (gsV v o p g) o := fun D rD zD => by
        have fD := f12.fr rD szd
        refine ⟨fD, ?_⟩
        obtain ⟨b1, b2, b3, b4, b5, b6, b7⟩ := zD
        refine ⟨b1, (rD.gr r 0).trans r120, b2, by rw [fD.1]; exact h4, b3, by rw [v1, fD.2.1]; omega, by rw [fD.2.1]; exact h7, by rw [v2]; exact b4, b5, ?_, by rw [v2]; exact b6, fun y hy => ?_, fun x hx => ?_⟩
        · rw [v1, rD.2.2.2 r 2 (fun z => by rcases z with z | z <;> omega)]
          exact i122
        · rw [v1] at hy
          have ey := v4 y
          rw [rD.gr ps y, r12 y hy]
          by_cases e1 : y < p
          · obtain ⟨d, d1, d2⟩ := h12 y (by omega)
            rw [if_pos e1]
            refine ⟨d, d1, (d2.fc fD n23 (w0.npt d2.1)).cg (fun t ht => ?_)⟩
            show gsV v o p g (o + 4 + 6 * y + t) = _
            rw [ey t hy ht, if_pos e1]
          · obtain ⟨d, d1, d2⟩ := h12 (y + 1) (by omega)
            rw [if_neg e1]
            refine ⟨d, d1, (d2.fc fD n23 (w0.npt d2.1)).cg (fun t ht => ?_)⟩
            show gsV v o p g (o + 4 + 6 * y + t) = _
            rw [ey t hy ht, if_neg e1]
        · rw [v2] at hx
          rw [v5 x hx]
          exact b7 x hx
      have hz : ∀ k, k < v (o + 3) → gsSz v o g k ≤ 16 := fun k hk => by
        have := s4 k hk
        unfold gsSz gsS
        split <;> omega
      have hzg := hz g hg
      simp only [z12.f1, Option.bind_some, z12.g hg]
      by_cases c0 : gsS v o g g = 0
      · have W : gsW v o g = 1 := by unfold gsW; rw [if_pos c0]
        rw [show gsSz v o g g = 0 from c0, if_pos nI_0]
        obtain ⟨D, u1, u2, u3⟩ := K_rmPg z12 hg
        have := fin D u2 (by
          unfold gsP
          rw [W, if_neg (by omega)]
          refine u3.cg (fun k hk => ?_)
          unfold gsK rmZ gsSz
          rw [W, if_neg (by omega), if_pos rfl])
        exact ⟨D, by simp only [z_sel z12.1, Option.bind_some, u1, z_rV], this.1, this.2⟩
      rw [if_neg (nI_ne0 (show 0 < gsSz v o g g from Nat.pos_of_ne_zero c0) (by omega))]
      simp only [z12.f3, Option.bind_some, nI_add]
      obtain ⟨D, u1, u2, u3, u4⟩ := K_go128 z12 (by omega) hg hz (x1 := nI p) (x3 := nI (v (o + 2) - 1))
      have fin3 : ¬ (g + 1 < v (o + 3) ∧ gsS v o g g + gsS v o g (g + 1) ≤ 10) → FC (dra r ps sz) M D ∧ RWx D r ps sz (gsV v o p g) o := fun c2 => by
        refine fin D u2 ?_
        by_cases c3 : 0 < g ∧ gsS v o g (g - 1) + gsS v o g g ≤ 10
        · have W : gsW v o g = 3 := by unfold gsW; rw [if_neg c0, if_neg c2, if_pos c3]
          have u3 := u3 c3
          unfold gsP
          rw [W, if_neg (by omega)]
          refine u3.cg (fun k hk => ?_)
          unfold gsK mlZ gsSz
          rw [W, if_neg (by omega), if_neg (by omega), if_neg (by omega), show g - 1 + 1 = g by omega]
        · have W : gsW v o g = 0 := by unfold gsW; rw [if_neg c0, if_neg c2, if_neg c3]
          have u3 := u4 c3
          unfold gsP
          rw [W, if_pos rfl]
          refine u3.cg (fun k hk => ?_)
          unfold gsK gsSz
          rw [W, if_pos rfl]
      rw [E_X3_go_128] at u1
      by_cases c1 : g + 1 < v (o + 3)
      · rw [if_neg (nI_ge c1 (by omega))]
        have hz1 := hz (g + 1) c1
        simp only [z12.f1, Option.bind_some, z12.g hg, z12.g c1, nI_add]
        by_cases c2 : gsS v o g g + gsS v o g (g + 1) ≤ 10
        · have W : gsW v o g = 2 := by unfold gsW; rw [if_neg c0, if_pos ⟨c1, c2⟩]
          rw [if_neg (nI_nlt (show gsSz v o g g + gsSz v o g (g + 1) ≤ 10 from c2) (by omega))]
          obtain ⟨D, u1, u2, u3⟩ := K_meltP z12 c1
          have := fin D u2 (by
            unfold gsP
            rw [W, if_neg (by omega)]
            refine u3.cg (fun k hk => ?_)
            unfold gsK mlZ gsSz
            rw [W, if_neg (by omega), if_neg (by omega), if_pos rfl])
          exact ⟨D, by simp only [z_sel z12.1, Option.bind_some, u1, z_rV], this.1, this.2⟩
        · rw [if_pos (nI_lt (show 10 < gsSz v o g g + gsSz v o g (g + 1) from Nat.lt_of_not_le c2) (by omega))]
          have := fin3 (fun e => c2 e.2)
          simp only [z12.f1, Option.bind_some, z12.g hg] at u1
          exact ⟨D, u1, this.1, this.2⟩
      · rw [if_pos (nI_le (by omega) (by omega))]
        have := fin3 (fun e => c1 e.1)
        simp only [z12.f1, Option.bind_some, z12.g hg] at u1
        exact ⟨D, u1, this.1, this.2⟩
  exact key (v (o + 2) - 1 - p) p (by omega) (Nat.le_refl _) M (FC.rf _ M) (fun x hx => by unfold shD; rw [if_neg (by omega)]) (fun _ _ _ => rfl) (fun _ _ => rfl)
