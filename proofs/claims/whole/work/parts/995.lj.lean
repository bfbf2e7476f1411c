/-! ===== THE CLASS: within ===== -/
def wiE (v : Nat → Nat) (o : Nat) (g : Nat → Nat) (wy D y i : Nat) : Bool := decide (dsP v o g wy i ≤ D ∧ i < y)
theorem wiE_s {v : Nat → Nat} {o : Nat} {g : Nat → Nat} {wy D y : Nat} (h : dsP v o g wy y ≤ D) : adE (wiE v o g wy D y) y = wiE v o g wy D (y + 1) := by
  funext i
  unfold adE wiE
  by_cases e : i = y
  · rw [if_pos e, e]
    symm
    rw [decide_eq_true_eq]
    omega
  · rw [if_neg e]
    apply decide_eq_decide.mpr
    omega
theorem K_rdW {M0 : q_M} {wy D : Nat} {r ps sz : Nat} {v : Nat → Nat} {ic o : Nat} {g : Nat → Nat} (h0 : SH M0) (w0 : RWx M0 r ps sz v o) (st : ST M0 r ∧ ST M0 ps ∧ ST M0 sz) (sw : SW v ic o) (hc : okI v ic) (sa0 : SA M0 g wy) (hD : D < 2 ^ 31) : ∃ M1, q_CL 35 [.inr (.inr (some 39)), .inr (.inr (some r)), .inr (.inl (lN D)), .inr (.inr (some 9))] M0 = some (none, M1) ∧ FC (nrP 9 10 11) M0 M1 ∧ NQ M1 9 10 11 v o g wy (fun i => decide (dsP v o g wy i ≤ D)) 300 (cnt (fun k => decide (bxF v o g wy k ≤ D)) (v (o + 3))) := by
  have s0 := FS_now h0
  have ap := ap_now
  have s1 := sw.1
  have s2 := sw.2.1
  have hg : ∀ a, a < 3 → g a < 2 ^ 20 := fun a ha => (sa0.1 a ha).2
  have hm : 300 = if 300 < 300 then 300 else 300 := by rfl
  have P63 := nrP_63 s0 h0
  have bb : ∀ k, k < v (o + 3) → bxF v o g wy k < 2 ^ 62 := fun k hk => by have := (bxF_b sw hc hg (wy := wy) hk).2; omega
  have n39 : ¬ fdc 9 10 11 39 := ap 39 (Or.inl rfl)
  have n40 : ¬ fdc 9 10 11 40 := ap 40 (Or.inr (Or.inl rfl))
  have pts : ∀ k, k < v (o + 3) → ∀ t n y, y + n = psm v o (k + 1) → psm v o k ≤ y → ∀ A, FC (nrP 9 10 11) M0 A → SA A g wy → BF A v o g wy (v (o + 3)) → NQ A 9 10 11 v o g wy (wiE v o g wy D y) 300 t → ∀ (d8 d9 : Option q_V), ∃ M1 e6 e7 e8 e9, q_RL T_X4_readWithin (60, [some (.inr (.inr (some 39))), some (.inr (.inr (some r))), some (.inr (.inl (lN D))), none, some (.inr (.inr (some 9))), some (.inl (nI k)), some (.inl (nI (psm v o k))), some (.inl (nI y)), d8, d9], [], A) = q_RL T_X4_readWithin (13, [some (.inr (.inr (some 39))), some (.inr (.inr (some r))), some (.inr (.inl (lN D))), none, some (.inr (.inr (some 9))), some (.inl (nI (k + 1))), e6, e7, e8, e9], [], M1) ∧ FC (nrP 9 10 11) M0 M1 ∧ SA M1 g wy ∧ BF M1 v o g wy (v (o + 3)) ∧ NQ M1 9 10 11 v o g wy (wiE v o g wy D (psm v o (k + 1))) 300 t := by
    intro k hk t n
    have ep : psm v o k + v (o + 1804 + k) = psm v o (k + 1) := rfl
    have pn := sw.pn hk
    induction n with
    | zero =>
      intro y hy hky A fA aA bA qA d8 d9
      have w := w0.fc fA P63 st.1 st.2.1 st.2.2
      have ey : y = psm v o (k + 1) := by omega
      refine ⟨A, some (.inl (nI (psm v o k))), some (.inl (nI y)), d8, d9, ?_, fA, aA, bA, by rw [← ey]; exact qA⟩
      rw [E_X4_readWithin_60]
      simp only [Option.bind_some, w.f1, w.sz hk, nI_add, ep, nI_1]
      rw [if_pos (nI_le (by omega) (by omega))]
    | succ n ih =>
      intro y hy hky A fA aA bA qA d8 d9
      have w := w0.fc fA P63 st.1 st.2.1 st.2.2
      have hA := fA.sh h0
      have hy2 : y < v (o + 2) := by omega
      obtain ⟨c, c1, c2⟩ := w.pt hy2
      have far := K_far hA aA c2 (fun a ha => sw.pt hc hy2 ha)
      have d42 := dsP_b (v := v) (o := o) (g := g) (wy := wy) (p := y) (fun a ha => sw.pt hc hy2 ha) hg
      have ef : wiE v o g wy D y y = false := by unfold wiE; rw [decide_eq_false_iff_not]; omega
      rw [E_X4_readWithin_60]
      simp only [Option.bind_some, w.f1, w.sz hk, nI_add, ep]
      rw [if_neg (nI_ge (by omega) (by omega))]
      simp only [w.f0, Option.bind_some, c1, s39_sel hA, far, z_rL, lg_cmp_gt, pk_lLT (show D < 2 ^ 63 by omega) (Nat.lt_trans d42 (by decide : 2 ^ 42 < 2 ^ 63)), nI_1]
      by_cases cd : dsP v o g wy y ≤ D
      · rw [if_neg (by omega)]
        obtain ⟨B, b1, b2, b3, b4⟩ := K_ofE hA (FS_now hA) sw hc hg qA (show 300 ≤ 300 by omega) hm hy2 ef c2
        rw [wiE_s cd] at b3
        obtain ⟨M1, e6, e7, e8, e9, u1, u2⟩ := ih (y + 1) (by omega) (by omega) B (fA.tr (b2.wk (fun _ z => Or.inr z))) (aA.fc b2 n39) (fun x hx => ((b2.2.2.2.1 40 x n40).2.1).trans (bA x hx)) b3 (some (.inr (.inl (lN (dsP v o g wy y))))) none
        refine ⟨M1, e6, e7, e8, e9, ?_, u2⟩
        simp only [z_sel (FS_now hA).1, Option.bind_some, b1, z_rV]
        exact u1
      · rw [if_pos (by omega)]
        exact ih (y + 1) (by omega) (by omega) A fA aA bA (qA.cg (fun i hi => by
          unfold wiE
          apply decide_eq_decide.mpr
          constructor
          · intro z
            refine ⟨z.1, ?_⟩
            have : i ≠ y := fun q => cd (by rw [← q]; exact z.1)
            omega
          · intro z
            exact ⟨z.1, by omega⟩)) _ _
  have key : ∀ n k, k + n = v (o + 3) → ∀ A, FC (nrP 9 10 11) M0 A → SA A g wy → BF A v o g wy (v (o + 3)) → NQ A 9 10 11 v o g wy (wiE v o g wy D (psm v o k)) 300 (cnt (fun k => decide (bxF v o g wy k ≤ D)) k) → ∀ (d6 d7 d8 d9 : Option q_V), ∃ M1, q_RL T_X4_readWithin (13, [some (.inr (.inr (some 39))), some (.inr (.inr (some r))), some (.inr (.inl (lN D))), none, some (.inr (.inr (some 9))), some (.inl (nI k)), d6, d7, d8, d9], [], A) = some (none, M1) ∧ FC (nrP 9 10 11) M0 M1 ∧ NQ M1 9 10 11 v o g wy (wiE v o g wy D (psm v o (v (o + 3)))) 300 (cnt (fun k => decide (bxF v o g wy k ≤ D)) (v (o + 3))) := by
    intro n
    induction n with
    | zero =>
      intro k hk A fA aA bA qA d6 d7 d8 d9
      have w := w0.fc fA P63 st.1 st.2.1 st.2.2
      have ek : k = v (o + 3) := by omega
      refine ⟨A, ?_, fA, by rw [← ek]; exact qA⟩
      rw [E_X4_readWithin_13]
      simp only [Option.bind_some, w.f3]
      rw [if_pos (nI_le (by omega) (by omega))]
    | succ n ih =>
      intro k hk A fA aA bA qA d6 d7 d8 d9
      have w := w0.fc fA P63 st.1 st.2.1 st.2.2
      have hA := fA.sh h0
      have hk3 : k < v (o + 3) := by omega
      have b62 := bb k hk3
      have cs : cnt (fun k => decide (bxF v o g wy k ≤ D)) (k + 1) = cnt (fun k => decide (bxF v o g wy k ≤ D)) k + if decide (bxF v o g wy k ≤ D) = true then 1 else 0 := rfl
      rw [E_X4_readWithin_13]
      simp only [Option.bind_some, w.f3]
      rw [if_neg (nI_ge (by omega) (by omega))]
      simp only [f39 hA (show (39, 0, 40) ∈ q_crs by decide), Option.bind_some, a40 hA (show k < 300 by omega), bA k hk3, lg_cmp_le, pk_lLE (Nat.lt_trans b62 (by decide : 2 ^ 62 < 2 ^ 63)) (show D < 2 ^ 63 by omega), nI_1]
      by_cases cb : bxF v o g wy k ≤ D
      · rw [if_pos cb]
        rw [if_pos (decide_eq_true cb)] at cs
        have sA := FS_now hA
        have iA := sA.is
        have q2 := qA.2.1
        have fB : FC (nrP 9 10 11) A (stI A 9 3 (nI (cnt (fun k => decide (bxF v o g wy k ≤ D)) k + 1))) := (FC.rf (nrP 9 10 11) A).sI (Or.inr (Or.inl rfl))
        have wB := w.fc fB P63 (fA.st (fun z => (P63 23 z).2 rfl) st.1) (fA.st (fun z => (P63 23 z).2 rfl) st.2.1) (fA.st (fun z => (P63 23 z).2 rfl) st.2.2)
        have qB : NQ (stI A 9 3 (nI (cnt (fun k => decide (bxF v o g wy k ≤ D)) k + 1))) 9 10 11 v o g wy (wiE v o g wy D (psm v o k)) 300 (cnt (fun k => decide (bxF v o g wy k ≤ D)) k + 1) := ⟨(gI_oth (by omega)).trans qA.1, gI_self, fun r' hr => by
          obtain ⟨a, c, b1, b2⟩ := qA.2.2 r' hr
          exact ⟨a, c, b1, b2.kp (fB.kp P63)⟩⟩
        have aB : SA (stI A 9 3 (nI (cnt (fun k => decide (bxF v o g wy k ≤ D)) k + 1))) g wy := ⟨fun a ha => ⟨(gI_oth (by omega)).trans (aA.1 a ha).1, (aA.1 a ha).2⟩, (gI_oth (by omega)).trans aA.2.1, aA.2.2⟩
        obtain ⟨C, e6, e7, e8, e9, u1, u2, u3, u4, u5⟩ := pts k hk3 _ (psm v o (k + 1) - psm v o k) (psm v o k) (by have := psm_mo (v := v) (o := o) (show k ≤ k + 1 by omega); omega) (Nat.le_refl _) _ (fA.tr fB) aB bA qB d8 d9
        rw [← cs] at u5
        obtain ⟨M1, y1, y2⟩ := ih (k + 1) (by omega) C u2 u3 u4 u5 e6 e7 e8 e9
        refine ⟨M1, ?_, y2⟩
        simp only [z_fI iA, q2, Option.bind_some, nI_add, z_sI iA, wB.sel, K_start wB (Nat.le_trans sw.2.1 sw.1) (show k ≤ v (o + 3) by omega), z_rI]
        rw [u1]
        exact y1
      · rw [if_neg cb]
        rw [if_neg (fun z => cb (of_decide_eq_true z)), Nat.add_zero] at cs
        refine ih (k + 1) (by omega) A fA aA bA ?_ d6 d7 d8 d9
        rw [cs]
        refine qA.cg (fun i hi => ?_)
        unfold wiE
        apply decide_eq_decide.mpr
        have ep : psm v o k ≤ psm v o (k + 1) := psm_mo (by omega)
        constructor
        · intro z
          refine ⟨z.1, ?_⟩
          apply Classical.byContradiction
          intro q
          have := bxF_le (g := g) (wy := wy) (show psm v o k ≤ i ∧ i < psm v o (k + 1) by omega)
          omega
        · intro z
          exact ⟨z.1, by omega⟩
  obtain ⟨A, a1, a2, a3, a4, a5⟩ := K_meas h0 w0 st sw hc sa0
  have hA := a2.sh h0
  have sA := FS_now hA
  obtain ⟨B, c1, c2, c3⟩ := K_fb sA (fun r t => v (o + 4 + 6 * elt (kL v o g wy) (v (o + 2)) (wiE v o g wy D (psm v o 0)) r + t)) (fun r => dsP v o g wy (elt (kL v o g wy) (v (o + 2)) (wiE v o g wy D (psm v o 0)) r))
  have fB : FC (fdc 9 10 11) A B := c2.fc (fun a k z => Or.inl z.1)
  have cz : cnt (wiE v o g wy D (psm v o 0)) (v (o + 2)) = 0 := by
    refine Eq.trans (cnt_cg (F := fun _ => false) _ (fun i _ => ?_)) (cnt_no (v (o + 2)))
    unfold wiE
    rw [decide_eq_false_iff_not]
    have : psm v o 0 = 0 := rfl
    omega
  obtain ⟨M1, y1, y2, y3⟩ := key (v (o + 3)) 0 (by omega) B ((a2.wk (fun _ z => Or.inl z)).tr (fB.wk (fun _ z => Or.inr z))) (a3.fc fB n39) (fun k hk => ((fB.2.2.2.1 40 k n40).2.1).trans (a4 k hk)) (by
    unfold NQ
    rw [cz, if_pos (by omega)]
    exact c3) none none none none
  refine ⟨M1, ?_, y2, y3.cg (fun i hi => ?_)⟩
  · rw [C_X4_readWithin]
    simp only [s39_sel h0, Option.bind_some, a1, z_rV, z_sel sA.1, c1]
    exact y1
  · unfold wiE
    apply decide_eq_decide.mpr
    rw [sw.2.2.1]
    exact ⟨fun z => ⟨z, hi⟩, fun z => z.1⟩
theorem K_with_no {v : Nat → Nat} (sv : SV v) {M : q_M} (h : SH M) (hs : HS M 2 v) {x1 x2 x3 x4 x5 x6 : Int32} (n : ¬ (∃ j q wy D, askI v x1 x2 x3 x4 x5 (nI 1) j q wy 1 ∧ D < 2 ^ 31 ∧ x6 = nI D)) : ∃ M1, q_CL 113 [.inr (.inr (some 1)), .inl x1, .inl x2, .inl x3, .inl x4, .inl x5, .inl x6] M = some (some (.inl (-1)), M1) ∧ FC s39 M M1 := by
  rw [C_X11_within]
  simp only [c_sel h, Option.bind_some]
  by_cases c : ∃ j q wy, aimI v x1 x2 x3 x4 x5 j q wy
  rotate_left
  · refine ⟨M, ?_, FC.rf _ M⟩
    simp only [K_aimAt_no sv h hs c, z_rR, Option.bind_some]
    rw [if_pos trivial]
  obtain ⟨j, q, wy, a⟩ := c
  obtain ⟨r, ps, sz, M1, u1, u2, _⟩ := K_aimAt sv h hs a
  refine ⟨M1, ?_, u2⟩
  simp only [u1, z_rR, Option.bind_some]
  rw [if_neg (by simp)]
  by_cases c0 : x6 < 0
  · rw [if_neg (fun z => Int32.not_lt.mpr z c0)]
  · obtain ⟨k, hk, rfl⟩ := nI_of c0
    obtain ⟨a1, a2, a3, a4, a5, a6, a7, a8, a9⟩ := a
    exact absurd ⟨j, q, wy, k, ⟨a1, a2, a3, a4, a5, a6, a7, a8, a9, rfl, by omega, by omega⟩, hk, rfl⟩ n
theorem K_with {v : Nat → Nat} (sv : SV v) {M : q_M} (h : SH M) (hs : HS M 2 v) {x1 x2 x3 x4 x5 : Int32} {j : Nat} {q : Nat → Nat} {wy D : Nat} (a : askI v x1 x2 x3 x4 x5 (nI 1) j q wy 1) (hD : D < 2 ^ 31) : ∃ M1, q_CL 113 [.inr (.inr (some 1)), .inl x1, .inl x2, .inl x3, .inl x4, .inl x5, .inl (nI D)] M = some (some (.inl (nI (cnt (fun i => decide (dsP v (oS j) q wy i ≤ D)) (v (oS j + 2))))), M1) ∧ FC (nrP 9 10 11) M M1 ∧ FN M1 2 (nrV v (oS j) q wy (cnt (fun k => decide (bxF v (oS j) q wy k ≤ D)) (v (oS j + 3))) (cnt (fun i => decide (dsP v (oS j) q wy i ≤ D)) (v (oS j + 2)))) := by
  obtain ⟨a1, a2, a3, a4, a5, a6, a7, a8, a9, _, _, _⟩ := a
  have ai : aimI v x1 x2 x3 x4 x5 j q wy := ⟨a1, a2, a3, a4, a5, a6, a7, a8, a9⟩
  obtain ⟨i8, hc⟩ := sv.i8 a1 a3
  have sw := sv.sw a1 a3
  have s1 := sw.1
  have ob := oS_b a1
  obtain ⟨r, ps, sz, A, u1, u2, u3, u4, u5⟩ := K_aimAt sv h hs ai
  have hA := u2.sh h
  obtain ⟨B, b1, b2, b3⟩ := K_rdW hA u4 u5 sw hc u3 hD
  have oR : Ord (kL v (oS j) q wy) (v (oS j + 2)) := kL_o fun p q hp hq => (sw.2.2.2.2.2 p q hp hq).1
  have hB := b2.sh hA
  have cm : cnt (fun i => decide (dsP v (oS j) q wy i ≤ D)) (v (oS j + 2)) ≤ v (oS j + 2) := cnt_m _ _
  unfold NQ at b3
  rw [show (if cnt (fun i => decide (dsP v (oS j) q wy i ≤ D)) (v (oS j + 2)) < 300 then cnt (fun i => decide (dsP v (oS j) q wy i ≤ D)) (v (oS j + 2)) else 300) = cnt (fun i => decide (dsP v (oS j) q wy i ≤ D)) (v (oS j + 2)) by split <;> omega] at b3
  have q1 : gI B 9 2 = nI (cnt (fun i => decide (dsP v (oS j) q wy i ≤ D)) (v (oS j + 2))) := b3.1
  refine ⟨B, ?_, (u2.wk (fun _ z => Or.inl z)).tr b2, ?_⟩
  · rw [C_X11_within]
    simp only [c_sel h, Option.bind_some, u1, z_rR]
    rw [if_neg (by simp), if_pos (nI_pos' hD), nI_l hD]
    simp only [c_now hA (show (1, 5, 39) ∈ q_crs by decide), c_now hA (show (1, 0, 2) ∈ q_crs by decide), s_now hA (show (2, 5, 9) ∈ q_crs by decide), Option.bind_some, s39_sel hA, b1, z_rV, c_now hB (show (1, 0, 2) ∈ q_crs by decide), s_now hB (show (2, 5, 9) ∈ q_crs by decide), z_fI (FS_now hB).is, q1]
  · have nb : ∀ r, r < cnt (fun i => decide (dsP v (oS j) q wy i ≤ D)) (v (oS j + 2)) → elt (kL v (oS j) q wy) (v (oS j + 2)) (fun _ => true) r = elt (kL v (oS j) q wy) (v (oS j + 2)) (fun i => decide (dsP v (oS j) q wy i ≤ D)) r := fun r hr => elt_fst oR (Nat.le_refl _) (fun i j' hi hj' ei ej _ => by
      have e1 := of_decide_eq_true ei
      have e2 := of_decide_eq_false ej
      exact kL_t.mpr (Or.inl (by omega))) hr
    refine FN_fd (b := 2) (by omega) (by omega) (b3.cg (fun r hr => ?_)) (fun r hr => ?_)
    · rw [nb r hr]; exact ⟨rfl, rfl⟩
    · exact (sw.2.2.2.2.1 _ (elt_ok oR (E := fun _ => true) (by rw [cnt_all]; omega)).1).1
