theorem dst_x {wy a b c : Nat} : (wy = 2 → a * a ≤ dst wy a b c) ∧ (¬ wy = 2 → a ≤ dst wy a b c) := by
  unfold dst
  refine ⟨fun e => ?_, fun e => ?_⟩
  · rw [if_neg (by omega), if_pos e]
    generalize a * a = x
    omega
  · by_cases z : wy = 0
    · rw [if_pos z]; omega
    · rw [if_neg z, if_neg e]
      repeat' split
      all_goals omega
theorem K_c47 {M : q_M} {r ps sz f i j ci : Nat} {v : Nat → Nat} {ic o wy : Nat} (hw : wy < 3) (w : RWx M r ps sz v o) (sw : SW v ic o) (hc : okI v ic) (hj : j < i) (hi : i < v (o + 2)) (pi : PO M ci (fun t => v (o + 4 + 6 * i + t))) {best : Option (Nat × Nat)} {r4 r5 : Option Nat} {l6 : Int64} (bq : BQ M v o wy best r4 r5 l6) (pb : PBs v o wy (spU i j) best) (d7 d11 d12 d13 d14 d15 d16 d17 : Option q_V) : ∃ best' r4' r5' l6' e7 e11 e12 e13 e14 e15 e16 e17, BQ M v o wy best' r4' r5' l6' ∧ PBs v o wy (spU i (j + 1)) best' ∧ q_RL T_X4_readClosest (47, [some (.inr (.inr (some 39))), some (.inr (.inr (some r))), some (.inl (nI wy)), some (.inr (.inr (some f))), some (.inr (.inr r4)), some (.inr (.inr r5)), some (.inr (.inl l6)), d7, some (.inl (nI i)), some (.inr (.inr (some ci))), some (.inl (nI j)), d11, d12, d13, d14, d15, d16, d17], [], M) = q_RL T_X4_readClosest (47, [some (.inr (.inr (some 39))), some (.inr (.inr (some r))), some (.inl (nI wy)), some (.inr (.inr (some f))), some (.inr (.inr r4')), some (.inr (.inr r5')), some (.inr (.inl l6')), e7, some (.inl (nI i)), some (.inr (.inr (some ci))), some (.inl (nI (j + 1))), e11, e12, e13, e14, e15, e16, e17], [], M) := by
  have s1 := sw.1
  obtain ⟨cj, c1, pj⟩ := w.pt (show j < v (o + 2) by omega)
  have bd : ∀ p, p < v (o + 2) → v (o + 4 + 6 * p) < 2 ^ 31 := fun p hp => by have := (sw.2.2.2.2.1 p hp).1; omega
  have bi := bd i hi
  have bj := bd j (by omega)
  have d42 : ∀ a b, a < v (o + 2) → b < v (o + 2) → dfP v o wy a b < 2 ^ 42 := fun a b ha hb => dsP_b (fun x hx => sw.pt hc hb hx) (fun x hx => sw.pt hc ha hx)
  have xi := sw.pt hc hi (show 0 < 3 by omega)
  have xj := sw.pt hc (show j < v (o + 2) by omega) (show 0 < 3 by omega)
  have fi : q_fI M 2 ci 0 = some (nI (v (o + 4 + 6 * i))) := pi.f.1
  have fj : q_fI M 2 cj 0 = some (nI (v (o + 4 + 6 * j))) := pj.f.1
  have gi : q_fI M 2 ci 2 = some (nI (v (o + 4 + 6 * i + (1 + 0)))) := pi.f.2.2.1
  have gj : q_fI M 2 cj 2 = some (nI (v (o + 4 + 6 * j + (1 + 0)))) := pj.f.2.2.1
  have e0 : (if 0 ≤ (nI (v (o + 4 + 6 * i + (1 + 0))) - nI (v (o + 4 + 6 * j + (1 + 0)))) then (nI (v (o + 4 + 6 * i + (1 + 0))) - nI (v (o + 4 + 6 * j + (1 + 0)))) else 0 - (nI (v (o + 4 + 6 * i + (1 + 0))) - nI (v (o + 4 + 6 * j + (1 + 0))))) = nI (ad (v (o + 4 + 6 * i + (1 + 0))) (v (o + 4 + 6 * j + (1 + 0)))) := abs_i (Nat.lt_trans xi (by decide)) (Nat.lt_trans xj (by decide))
  have dxb := ad_b xi xj
  have dxe : dfP v o wy i j = dst wy (ad (v (o + 4 + 6 * i + (1 + 0))) (v (o + 4 + 6 * j + (1 + 0)))) (ad (v (o + 4 + 6 * j + (1 + 1))) (v (o + 4 + 6 * i + (1 + 1)))) (ad (v (o + 4 + 6 * j + (1 + 2))) (v (o + 4 + 6 * i + (1 + 2)))) := by rw [ad_c (v (o + 4 + 6 * i + (1 + 0)))]; rfl
  obtain ⟨dx2, dx1⟩ := dst_x (wy := wy) (a := ad (v (o + 4 + 6 * i + (1 + 0))) (v (o + 4 + 6 * j + (1 + 0)))) (b := ad (v (o + 4 + 6 * j + (1 + 1))) (v (o + 4 + 6 * i + (1 + 1)))) (c := ad (v (o + 4 + 6 * j + (1 + 2))) (v (o + 4 + 6 * i + (1 + 2))))
  rw [← dxe] at dx1 dx2
  generalize ad (v (o + 4 + 6 * i + (1 + 0))) (v (o + 4 + 6 * j + (1 + 0))) = dx at *
  have dxx : dx * dx < 2 ^ 40 := by
    have : dx * dx ≤ (2 ^ 20 - 1) * (2 ^ 20 - 1) := Nat.mul_le_mul (by omega) (by omega)
    omega
  obtain ⟨L, hL, L63, Ln, Ls⟩ : ∃ L, l6 = lN L ∧ L < 2 ^ 63 ∧ (best = none → L = 9223372036854775807) ∧ (∀ a b, best = some (a, b) → L = dfP v o wy a b) := by
    cases best with
    | none => exact ⟨9223372036854775807, bq.2.2, by omega, fun _ => rfl, fun a b z => by cases z⟩
    | some ab =>
      obtain ⟨a, b⟩ := ab
      obtain ⟨ca, cb, _, _, _, _, e⟩ := bq
      have sp := pb.1
      have := d42 a b (by unfold spU at sp; omega) (by unfold spU at sp; omega)
      exact ⟨_, e, by omega, fun z => (by cases z), fun a' b' z => by injection z with z; injection z with z1 z2; rw [z1, z2]⟩
  have bt := K_btw hw pi pj (fun x hx => sw.pt hc hi hx) (fun x hx => sw.pt hc (show j < v (o + 2) by omega) hx)
  have nij : v (o + 4 + 6 * j) ≠ v (o + 4 + 6 * i) := (sw.2.2.2.2.2 j i hj hi).1
  -- the pair is passed over
  have skp : L < dfP v o wy i j → PBs v o wy (spU i (j + 1)) best := fun lt => by
    have f42 := d42 i j hi (by omega)
    cases best with
    | none => have := Ln rfl; omega
    | some ab =>
      obtain ⟨a, b⟩ := ab
      have e := Ls a b rfl
      by_cases cn : v (o + 4 + 6 * j) < v (o + 4 + 6 * i)
      · exact PBs_kp (A := j) (B := i) (Or.inr ⟨rfl, rfl⟩) hj cn pb (by unfold lsP; rw [dfP_c v o wy j i]; omega)
      · exact PBs_kp (A := i) (B := j) (Or.inl ⟨rfl, rfl⟩) hj (by omega) pb (by unfold lsP; omega)
  have K := fun d13 => K_c134 (r := r) (f := f) (l12 := lN dx) sw hc hj hi pi pj bq pb d7 d13 none d16 d17
  have fin : ∃ best' r4' r5' l6' e7 e11 e12 e13 e14 e15 e16 e17, BQ M v o wy best' r4' r5' l6' ∧ PBs v o wy (spU i (j + 1)) best' ∧ (if nI (v (o + 4 + 6 * j)) ≤ nI (v (o + 4 + 6 * i)) then q_RL T_X4_readClosest (134, [some (.inr (.inr (some 39))), some (.inr (.inr (some r))), some (.inl (nI wy)), some (.inr (.inr (some f))), some (.inr (.inr r4)), some (.inr (.inr r5)), some (.inr (.inl l6)), d7, some (.inl (nI i)), some (.inr (.inr (some ci))), some (.inl (nI j)), some (.inr (.inr (some cj))), some (.inr (.inl (lN dx))), none, some (.inr (.inl (lN (dfP v o wy i j)))), none, d16, d17], [.inr (.inr (some cj))], M) else q_RL T_X4_readClosest (134, [some (.inr (.inr (some 39))), some (.inr (.inr (some r))), some (.inl (nI wy)), some (.inr (.inr (some f))), some (.inr (.inr r4)), some (.inr (.inr r5)), some (.inr (.inl l6)), d7, some (.inl (nI i)), some (.inr (.inr (some ci))), some (.inl (nI j)), some (.inr (.inr (some cj))), some (.inr (.inl (lN dx))), none, some (.inr (.inl (lN (dfP v o wy i j)))), none, d16, d17], [.inr (.inr (some ci))], M)) = q_RL T_X4_readClosest (47, [some (.inr (.inr (some 39))), some (.inr (.inr (some r))), some (.inl (nI wy)), some (.inr (.inr (some f))), some (.inr (.inr r4')), some (.inr (.inr r5')), some (.inr (.inl l6')), e7, some (.inl (nI i)), some (.inr (.inr (some ci))), some (.inl (nI (j + 1))), e11, e12, e13, e14, e15, e16, e17], [], M) := by
    have K0 := K none
    by_cases cn : v (o + 4 + 6 * j) ≤ v (o + 4 + 6 * i)
    · rw [if_pos cn] at K0
      rw [if_pos (nI_le cn bi)]
      exact K0
    · rw [if_neg cn] at K0
      rw [if_neg (nI_ge (by omega) bj)]
      exact K0
  rw [E_X4_readClosest_47, if_neg (nI_ge hj (by omega))]
  simp only [Option.bind_some, w.f0, c1, gi, gj, e0, nI_l (Nat.lt_trans dxb (by decide : 2 ^ 20 < 2 ^ 31)), lN_mul, lg_cmp_le, hL, pk_lLE (Nat.lt_trans dxx (by decide : 2 ^ 40 < 2 ^ 63)) L63, pk_lLE (Nat.lt_trans dxb (by decide : 2 ^ 20 < 2 ^ 63)) L63, bt, z_rL, fi, fj, nI_1]
  rw [hL] at fin bq
  by_cases c2 : wy = 2
  · rw [if_pos (by rw [c2])]
    by_cases c3 : dx * dx ≤ L
    · rw [if_pos c3]
      exact fin
    · rw [if_neg c3]
      have := dx2 c2
      exact ⟨best, _, _, _, _, _, _, _, _, _, _, _, bq, skp (by omega), rfl⟩
  · rw [if_neg (fun z => c2 ((nI_eq (by omega) (by omega)).mp z))]
    by_cases c3 : dx ≤ L
    · rw [if_pos c3]
      exact fin
    · rw [if_neg c3]
      have := dx1 c2
      exact ⟨best, _, _, _, _, _, _, _, _, _, _, _, bq, skp (by omega), rfl⟩
theorem K_c47L {M : q_M} {r ps sz f i ci : Nat} {v : Nat → Nat} {ic o wy : Nat} (hw : wy < 3) (w : RWx M r ps sz v o) (sw : SW v ic o) (hc : okI v ic) (hi : i < v (o + 2)) (pi : PO M ci (fun t => v (o + 4 + 6 * i + t))) : ∀ n j, j + n = i → ∀ best r4 r5 l6, BQ M v o wy best r4 r5 l6 → PBs v o wy (spU i j) best → ∀ (d7 d11 d12 d13 d14 d15 d16 d17 : Option q_V), ∃ best' r4' r5' l6' e7 e11 e12 e13 e14 e15 e16 e17, BQ M v o wy best' r4' r5' l6' ∧ PBs v o wy (spU i i) best' ∧ q_RL T_X4_readClosest (47, [some (.inr (.inr (some 39))), some (.inr (.inr (some r))), some (.inl (nI wy)), some (.inr (.inr (some f))), some (.inr (.inr r4)), some (.inr (.inr r5)), some (.inr (.inl l6)), d7, some (.inl (nI i)), some (.inr (.inr (some ci))), some (.inl (nI j)), d11, d12, d13, d14, d15, d16, d17], [], M) = q_RL T_X4_readClosest (47, [some (.inr (.inr (some 39))), some (.inr (.inr (some r))), some (.inl (nI wy)), some (.inr (.inr (some f))), some (.inr (.inr r4')), some (.inr (.inr r5')), some (.inr (.inl l6')), e7, some (.inl (nI i)), some (.inr (.inr (some ci))), some (.inl (nI i)), e11, e12, e13, e14, e15, e16, e17], [], M) := by
  intro n
  induction n with
  | zero =>
    intro j hj best r4 r5 l6 bq pb d7 d11 d12 d13 d14 d15 d16 d17
    have e : j = i := by omega
    subst e
    exact ⟨best, r4, r5, l6, d7, d11, d12, d13, d14, d15, d16, d17, bq, pb, rfl⟩
  | succ n ih =>
    intro j hj best r4 r5 l6 bq pb d7 d11 d12 d13 d14 d15 d16 d17
    obtain ⟨b', r4', r5', l6', e7, e11, e12, e13, e14, e15, e16, e17, y1, y2, y3⟩ := K_c47 (f := f) hw w sw hc (show j < i by omega) hi pi bq pb d7 d11 d12 d13 d14 d15 d16 d17
    rw [y3]
    exact ih (j + 1) (by omega) b' r4' r5' l6' y1 y2 e7 e11 e12 e13 e14 e15 e16 e17
theorem K_c26L {M : q_M} {r ps sz f : Nat} {v : Nat → Nat} {ic o wy : Nat} (hw : wy < 3) (w : RWx M r ps sz v o) (sw : SW v ic o) (hc : okI v ic) : ∀ n i, i + n = v (o + 2) → 1 ≤ i → ∀ best r4 r5 l6, BQ M v o wy best r4 r5 l6 → PBs v o wy (spU i 0) best → ∀ (d7 d9 d10 d11 d12 d13 d14 d15 d16 d17 : Option q_V), ∃ best' r4' r5' l6' e7 e9 e10 e11 e12 e13 e14 e15 e16 e17, BQ M v o wy best' r4' r5' l6' ∧ PBs v o wy (spU (v (o + 2)) 0) best' ∧ q_RL T_X4_readClosest (26, [some (.inr (.inr (some 39))), some (.inr (.inr (some r))), some (.inl (nI wy)), some (.inr (.inr (some f))), some (.inr (.inr r4)), some (.inr (.inr r5)), some (.inr (.inl l6)), d7, some (.inl (nI i)), d9, d10, d11, d12, d13, d14, d15, d16, d17], [], M) = q_RL T_X4_readClosest (26, [some (.inr (.inr (some 39))), some (.inr (.inr (some r))), some (.inl (nI wy)), some (.inr (.inr (some f))), some (.inr (.inr r4')), some (.inr (.inr r5')), some (.inr (.inl l6')), e7, some (.inl (nI (v (o + 2)))), e9, e10, e11, e12, e13, e14, e15, e16, e17], [], M) := by
  have s1 := sw.1
  intro n
  induction n with
  | zero =>
    intro i hi _ best r4 r5 l6 bq pb d7 d9 d10 d11 d12 d13 d14 d15 d16 d17
    have e : i = v (o + 2) := by omega
    subst e
    exact ⟨best, r4, r5, l6, d7, d9, d10, d11, d12, d13, d14, d15, d16, d17, bq, pb, rfl⟩
  | succ n ih =>
    intro i hi h1 best r4 r5 l6 bq pb d7 d9 d10 d11 d12 d13 d14 d15 d16 d17
    obtain ⟨ci, c1, pi⟩ := w.pt (show i < v (o + 2) by omega)
    obtain ⟨b', r4', r5', l6', e7, e11, e12, e13, e14, e15, e16, e17, y1, y2, y3⟩ := K_c47L (f := f) hw w sw hc (show i < v (o + 2) by omega) pi i 0 (by omega) best r4 r5 l6 bq pb d7 d11 d12 d13 d14 d15 d16 d17
    have pb2 : PBs v o wy (spU (i + 1) 0) b' := by
      have sp : ∀ a b, spU (i + 1) 0 a b → v (o + 4 + 6 * a) < v (o + 4 + 6 * b) → spU i i a b := fun a b s l => by
        have : a ≠ b := fun z => by rw [z] at l; omega
        unfold spU at s ⊢
        omega
      cases b' with
      | none => exact fun a b s l => y2 a b (sp a b s l) l
      | some ab =>
        obtain ⟨a, b⟩ := ab
        obtain ⟨h1, h2, h3⟩ := y2
        exact ⟨by unfold spU at h1 ⊢; omega, h2, fun c d s l ne => h3 c d (sp c d s l) l ne⟩
    obtain ⟨b2, q4, q5, q6, g7, g9, g10, g11, g12, g13, g14, g15, g16, g17, z1, z2, z3⟩ := ih (i + 1) (by omega) (by omega) b' r4' r5' l6' y1 pb2 (q_kill e7) (some (.inr (.inr (some ci)))) (some (.inl (nI i))) e11 e12 e13 e14 e15 e16 e17
    refine ⟨b2, q4, q5, q6, g7, g9, g10, g11, g12, g13, g14, g15, g16, g17, z1, z2, ?_⟩
    rw [E_X4_readClosest_26]
    simp only [Option.bind_some, w.f2]
    rw [if_neg (nI_ge (by omega) (by omega))]
    simp only [w.f0, Option.bind_some, c1]
    rw [y3, E_X4_readClosest_47, if_pos (nI_le (Nat.le_refl _) (by omega)), nI_1]
    exact z3
theorem PBs_eq {v : Nat → Nat} {o wy : Nat} {S : Nat → Nat → Prop} {a b c d : Nat} (h : PBs v o wy S (some (a, b))) (h2 : PBs v o wy S (some (c, d))) : a = c ∧ b = d := by
  apply Classical.byContradiction
  intro n
  have x := h.2.2 c d h2.1 h2.2.1 (fun z => n ⟨z.1.symm, z.2.symm⟩)
  have y := h2.2.2 a b h.1 h.2.1 n
  unfold lsP at x y
  omega
theorem PBs_A {v : Nat → Nat} {o wy m : Nat} {best : Option (Nat × Nat)} (h : PBs v o wy (spU m 0) best) : PBs v o wy (spA m) best := by
  have sp : ∀ a b, spA m a b → spU m 0 a b := fun a b s => Or.inl s
  cases best with
  | none => exact fun a b s l => h a b (sp a b s) l
  | some ab =>
    obtain ⟨a, b⟩ := ab
    obtain ⟨h1, h2, h3⟩ := h
    exact ⟨by unfold spU at h1; unfold spA; omega, h2, fun c d s l ne => h3 c d (sp c d s) l ne⟩
theorem K_pairs_no {v : Nat → Nat} (sv : SV v) {M : q_M} (h : SH M) (hs : HS M 2 v) {x1 x2 : Int32} (n : ¬ (∃ j wy, j < 4 ∧ x1 = nI j ∧ v (oS j) = 1 ∧ x2 = nI wy ∧ wy < 3)) : q_CL 114 [.inr (.inr (some 1)), .inl x1, .inl x2] M = some (some (.inl (-1)), M) := by
  rw [C_X11_pairs]
  by_cases c : ∃ j, j < 4 ∧ x1 = nI j ∧ v (oS j) = 1
  rotate_left
  · simp only [c_sel h, Option.bind_some, K_sA_no sv h hs c, z_rR]
    rw [if_pos trivial]
  obtain ⟨j, hj, rfl, e⟩ := c
  simp only [c_sel h, Option.bind_some, K_sA h hs hj e, z_rR]
  rw [if_neg (by simp), K_isWay.2 (fun ⟨wy, hw, z⟩ => n ⟨j, wy, hj, rfl, e, z, hw⟩)]
  simp only [z_rI, Option.bind_some]
  rw [if_pos nI_0]
/-- the class's own finding of pairs -/
theorem K_rdC {M0 : q_M} {r ps sz : Nat} {v : Nat → Nat} {ic o wy : Nat} (hw : wy < 3) (h0 : SH M0) (w0 : RWx M0 r ps sz v o) (st : ST M0 r ∧ ST M0 ps ∧ ST M0 sz) (sw : SW v ic o) (hc : okI v ic) : ∃ best M1, PBs v o wy (spU (if v (o + 2) < 1 then 1 else v (o + 2)) 0) best ∧ q_CL 37 [.inr (.inr (some 39)), .inr (.inr (some r)), .inl (nI wy), .inr (.inr (some 9))] M0 = some (none, M1) ∧ FC (fdc 9 10 11) M0 M1 ∧ (match best with
    | none => FQ M1 9 10 11 0 (fun r t => v (o + 4 + 6 * r + t)) (fun _ => 0) (v (o + 3))
    | some (a, b) => FQ M1 9 10 11 2 (fun r t => v (o + 4 + 6 * (if r = 0 then a else b) + t)) (fun _ => dfP v o wy a b) (v (o + 3))) := by
  have s1 := sw.1
  have s0 := FS_now h0
  have P63 : ∀ a, fdc 9 10 11 a → a < 63 ∧ a ≠ 23 := fun a z => by rcases z with z | z | z <;> omega
  obtain ⟨A, a1, a2, a3⟩ := K_fb s0 (fun r t => v (o + 4 + 6 * r + t)) (fun _ => 0)
  have fA : FC (fdc 9 10 11) M0 A := a2.fc (fun a k z => Or.inl z.1)
  have hA := fA.sh h0
  have fB : FC (fdc 9 10 11) M0 (stI A 9 3 (nI (v (o + 3)))) := fA.sI (Or.inl rfl)
  have hB := fB.sh h0
  have wA := w0.fc fA P63 st.1 st.2.1 st.2.2
  have wB := w0.fc fB P63 st.1 st.2.1 st.2.2
  have qB : FQ (stI A 9 3 (nI (v (o + 3)))) 9 10 11 0 (fun r t => v (o + 4 + 6 * r + t)) (fun _ => 0) (v (o + 3)) := ⟨(gI_oth (by omega)).trans a3.1, gI_self, fun r hr => by omega⟩
  have p0 : PBs v o wy (spU 1 0) none := fun a b s l => by
    have : a ≠ b := fun z => by rw [z] at l; omega
    unfold spU at s
    omega
  have run : q_CL 37 [.inr (.inr (some 39)), .inr (.inr (some r)), .inl (nI wy), .inr (.inr (some 9))] M0 = q_RL T_X4_readClosest (26, [some (.inr (.inr (some 39))), some (.inr (.inr (some r))), some (.inl (nI wy)), some (.inr (.inr (some 9))), some (.inr (.inr none)), some (.inr (.inr none)), some (.inr (.inl (lN 9223372036854775807))), none, some (.inl (nI 1)), none, none, none, none, none, none, none, none, none], [], stI A 9 3 (nI (v (o + 3)))) := by
    rw [C_X4_readClosest]
    simp only [Option.bind_some, z_sel s0.1, a1, z_rV, wA.f3, z_sI (FS_now hA).is]
  by_cases cm : v (o + 2) < 1
  · rw [if_pos cm]
    refine ⟨none, _, p0, ?_, fB, qB⟩
    rw [run, E_X4_readClosest_26]
    simp only [Option.bind_some, wB.f2]
    rw [if_pos (nI_le (by omega) (by omega)), if_pos trivial]
  · rw [if_neg cm]
    obtain ⟨best, r4, r5, l6, e7, e9, e10, e11, e12, e13, e14, e15, e16, e17, y1, y2, y3⟩ := K_c26L (f := 9) hw wB sw hc (v (o + 2) - 1) 1 (by omega) (Nat.le_refl _) none none none (lN 9223372036854775807) ⟨rfl, rfl, rfl⟩ p0 none none none none none none none none none none
    cases best with
    | none =>
      refine ⟨none, _, y2, ?_, fB, qB⟩
      obtain ⟨rfl, rfl, rfl⟩ := y1
      rw [run, y3, E_X4_readClosest_26]
      simp only [Option.bind_some, wB.f2]
      rw [if_pos (nI_le (Nat.le_refl _) (by omega)), if_pos trivial]
    | some ab =>
      obtain ⟨a, b⟩ := ab
      obtain ⟨ca, cb, rfl, rfl, pa, pb, rfl⟩ := y1
      obtain ⟨C, c1, c2, c3, c4⟩ := K_fapp (x := dfP v o wy a b) hB (FS_now hB) qB (by omega) pa
      have hC := c2.sh hB
      have n63 := (FS_now hB).n63 pb.2.2.2.2.2.2.2.1
      obtain ⟨D, d1, d2, d3, d4⟩ := K_fapp (x := dfP v o wy a b) hC (FS_now hC) c3 (by omega) (pb.fc c2 ((FS_now hB).n23 hB) n63)
      refine ⟨some (a, b), D, y2, ?_, (fB.tr c2).tr d2, d3.cg (fun r hr => ?_)⟩
      · rw [run, y3, E_X4_readClosest_26]
        simp only [Option.bind_some, wB.f2]
        rw [if_pos (nI_le (Nat.le_refl _) (by omega)), if_neg (by simp), if_neg (by simp)]
        simp only [z_sel (FS_now hB).1, Option.bind_some, c1, z_rV, z_sel (FS_now hC).1, d1]
      · unfold snP snD
        rcases (show r = 0 ∨ r = 1 by omega) with rfl | rfl
        · exact ⟨rfl, rfl⟩
        · exact ⟨rfl, rfl⟩
theorem K_pairs {v : Nat → Nat} (sv : SV v) {M : q_M} (h : SH M) (hs : HS M 2 v) {j wy : Nat} (hj : j < 4) (e : v (oS j) = 1) (hw : wy < 3) : ∃ M1, FC (fdc 9 10 11) M M1 ∧ (v (oS j + 2) < 2 → q_CL 114 [.inr (.inr (some 1)), .inl (nI j), .inl (nI wy)] M = some (some (.inl (nI 0)), M1) ∧ FN M1 2 (fd0 v (v (oS j + 3)))) ∧ (2 ≤ v (oS j + 2) → ∀ a b, PBs v (oS j) wy (spA (v (oS j + 2))) (some (a, b)) → q_CL 114 [.inr (.inr (some 1)), .inl (nI j), .inl (nI wy)] M = some (some (.inl (nI 2)), M1) ∧ FN M1 2 (paV v (oS j) wy (v (oS j + 3)) a b)) := by
  obtain ⟨c, r, ps, sz, o1, o2, o3, o4, o5, st⟩ := HS.op h hs hj e
  obtain ⟨i8, hc⟩ := sv.i8 hj e
  have sw := sv.sw hj e
  have s1 := sw.1
  have ob := oS_b hj
  obtain ⟨best, B, b1, b2, b3, b4⟩ := K_rdC hw h o5 st sw hc
  have hB := b3.sh h
  have run : ∀ n, gI B 9 2 = nI n → q_CL 114 [.inr (.inr (some 1)), .inl (nI j), .inl (nI wy)] M = some (some (.inl (nI n)), B) := fun n q => by
    rw [C_X11_pairs]
    simp only [c_sel h, Option.bind_some, K_sA h hs hj e, z_rR]
    rw [if_neg (by simp), K_isWay.1 ⟨wy, hw, rfl⟩]
    simp only [z_rI, Option.bind_some]
    rw [if_neg (show ¬ nI 1 = 0 by decide +kernel)]
    simp only [c_now h (show (1, 5, 39) ∈ q_crs by decide), o4, c_now h (show (1, 0, 2) ∈ q_crs by decide), s_now h (show (2, 5, 9) ∈ q_crs by decide), Option.bind_some, s39_sel h, b2, z_rV, c_now hB (show (1, 0, 2) ∈ q_crs by decide), s_now hB (show (2, 5, 9) ∈ q_crs by decide), z_fI (FS_now hB).is, q]
  refine ⟨B, b3, fun lt => ?_, fun ge a b pb => ?_⟩
  · have bn : best = none := by
      cases best with
      | none => rfl
      | some ab =>
        obtain ⟨a, b⟩ := ab
        have x := b1.1
        have y := b1.2.1
        have ne : a ≠ b := fun z => by rw [z] at y; omega
        unfold spU at x
        split at x <;> omega
    subst bn
    refine ⟨run 0 b4.1, ?_⟩
    exact FN_fd (b := 2) (o := oS j) (e := fun r => r) (d := fun _ => 0) (N := 0) (by omega) (by omega) b4 (fun r hr => by omega)
  · rw [if_neg (by omega)] at b1
    have b1' := PBs_A b1
    cases best with
    | none =>
      exfalso
      have n01 := (sw.2.2.2.2.2 0 1 (by omega) (by omega)).1
      have x := b1' 0 1 ⟨by omega, by omega⟩
      have y := b1' 1 0 ⟨by omega, by omega⟩
      omega
    | some ab =>
      obtain ⟨a', b'⟩ := ab
      obtain ⟨rfl, rfl⟩ := PBs_eq b1' pb
      have sp := pb.1
      refine ⟨run 2 b4.1, ?_⟩
      exact FN_fd (b := 2) (o := oS j) (by omega) (by omega) b4 (fun r hr => (sw.2.2.2.2.1 _ (by split; exact sp.1; exact sp.2)).1)
