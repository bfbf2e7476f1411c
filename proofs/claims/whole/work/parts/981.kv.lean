/-! ===== THE CLASS: a shelf begins ===== -/
theorem HS.othB {j n s : Nat} {M M1 : q_M} (f : FB (sh2 j) n s M M1) (g : 63 ≤ gN M) (hj : j < 4) {v u : Nat → Nat} (sv : SV v) (h : HS M 2 v) (e1 : ∀ x, x < 49 → u x = v x) (e2 : ∀ k x, k < 4 → k ≠ j → x < 14770 → u (oS k + x) = v (oS k + x)) (e3 : ∀ k, k < 4 → k ≠ j → u (60180 + k) = v (60180 + k)) (own : SHj M1 2 u j) : HS M1 2 u := fun k hk => by
  by_cases c : k = j
  · rw [c]; exact own
  · refine ((h k hk).kp (f.kp g (fun a _ z => sh2_63 hj a z)) (fun x => ?_)).cg sv hk e1 (fun x hx => e2 k x hk c hx) (e3 k hk c)
    have a := f.2.2.2.2.1 (2 + 13 + 2 * k) x (by omega) (by unfold sh2; omega)
    have d := f.2.2.2.2.1 (2 + 14 + 2 * k) x (by omega) (by unfold sh2; omega)
    exact ⟨a.1, a.2.2, d.2.2⟩
theorem K_row0 {M : q_M} (h : SH M) (ib : IB M) (rn : gN M + 3 ≤ 600000) (rs : gS M + 4 ≤ 7302250) : q_new M 3 4 = some (q_born M 3 4) ∧ ∃ M1, q_CL 17 [.inr (.inr (some (gN M)))] (q_born M 3 4) = some (none, M1) ∧ FB (fun _ => False) 3 4 M M1 ∧ ∀ u o, u (o + 2) = 0 → u (o + 3) = 0 → RW M1 (gN M) u o := by
  have g := h.2.2.2
  refine ⟨z_new (by omega) (by omega), ?_⟩
  have f1 := FB.born (fun _ => False) M g 3 4
  have t1 : (q_born M 3 4).1 (gN M) = 3 := t_bornS M 3 4
  have n1 : gN (q_born M 3 4) = gN M + 1 := rfl
  have q1 : gS (q_born M 3 4) = gS M + 4 := rfl
  generalize q_born M 3 4 = B1 at *
  have f2 : FC (fun a => a = gN M) B1 (stI (stI B1 (gN M) 2 (nI 0)) (gN M) 3 (nI 0)) := ((FC.rf (fun a => a = gN M) B1).sI rfl).sI rfl
  have i1 : q_isT 3 (B1.1 (gN M)) = true := by rw [t1]; rfl
  have i2 : q_isT 3 ((stI B1 (gN M) 2 (nI 0)).1 (gN M)) = true := i1
  have n2 : gN (stI (stI B1 (gN M) 2 (nI 0)) (gN M) 3 (nI 0)) = gN M + 1 := n1
  have q2 : gS (stI (stI B1 (gN M) 2 (nI 0)) (gN M) 3 (nI 0)) = gS M + 4 := q1
  have z2 : q_sI B1 3 (gN M) 2 (nI 0) = some (stI B1 (gN M) 2 (nI 0)) := z_sI i1
  have z3 : q_sI (stI B1 (gN M) 2 (nI 0)) 3 (gN M) 3 (nI 0) = some (stI (stI B1 (gN M) 2 (nI 0)) (gN M) 3 (nI 0)) := z_sI i2
  have tB2 : (stI (stI B1 (gN M) 2 (nI 0)) (gN M) 3 (nI 0)).1 (gN M) = 3 := t1
  have v2 : gI (stI (stI B1 (gN M) 2 (nI 0)) (gN M) 3 (nI 0)) (gN M) 2 = nI 0 := (gI_oth (by omega)).trans gI_self
  have v3 : gI (stI (stI B1 (gN M) 2 (nI 0)) (gN M) 3 (nI 0)) (gN M) 3 = nI 0 := gI_self
  rw [C_X3_init]
  simp only [z2, Option.bind_some, z3]
  generalize stI (stI B1 (gN M) 2 (nI 0)) (gN M) 3 (nI 0) = B2 at *
  have f12 : FB (fun _ => False) (1 + 0) (4 + 0) M B2 := f1.tr f2.fb (fun x hx e => by omega)
  have a4 : q_newA B2 18 (nI 0) = some (q_born B2 18 0) := z_newA (by omega) (by omega) (by omega)
  have f3 := FB.born (fun _ => False) B2 (by omega) 18 0
  have tB3 : (q_born B2 18 0).1 (gN M) = 3 := (t_bornx (by omega)).trans tB2
  have tP3 : (q_born B2 18 0).1 (gN M + 1) = 18 := by rw [← n2]; exact t_bornS _ _ _
  have lP3 : (q_born B2 18 0).2.1 (gN M + 1) = 0 := by rw [← n2]; exact l_born _ _ _
  have n3 : gN (q_born B2 18 0) = gN M + 2 := by rw [n_born]; omega
  have q3 : gS (q_born B2 18 0) = gS M + 4 := by rw [s_born]; omega
  have v23 : gI (q_born B2 18 0) (gN M) 2 = nI 0 := (gI_bornx (by omega)).trans v2
  have v33 : gI (q_born B2 18 0) (gN M) 3 = nI 0 := (gI_bornx (by omega)).trans v3
  simp only [a4, Option.bind_some, gN_d, n2]
  generalize q_born B2 18 0 = B3 at *
  have i3 : q_isT 3 (B3.1 (gN M)) = true := by rw [tB3]; rfl
  have f4 : FC (fun a => a = gN M) B3 (stR B3 (gN M) 0 (some (gN M + 1))) := (FC.rf (fun a => a = gN M) B3).sR rfl (isc_63 g)
  have z4 : q_sR B3 3 (gN M) 0 (some (gN M + 1)) = some (stR B3 (gN M) 0 (some (gN M + 1))) := z_sR i3
  have e40 : gR (stR B3 (gN M) 0 (some (gN M + 1))) (gN M) 0 = some (gN M + 1) := by rw [gR_stR, if_pos ⟨rfl, rfl⟩]
  have tB4 : (stR B3 (gN M) 0 (some (gN M + 1))).1 (gN M) = 3 := tB3
  have tP4 : (stR B3 (gN M) 0 (some (gN M + 1))).1 (gN M + 1) = 18 := tP3
  have lP4 : (stR B3 (gN M) 0 (some (gN M + 1))).2.1 (gN M + 1) = 0 := lP3
  have n4 : gN (stR B3 (gN M) 0 (some (gN M + 1))) = gN M + 2 := n3
  have q4 : gS (stR B3 (gN M) 0 (some (gN M + 1))) = gS M + 4 := q3
  have v24 : gI (stR B3 (gN M) 0 (some (gN M + 1))) (gN M) 2 = nI 0 := v23
  have v34 : gI (stR B3 (gN M) 0 (some (gN M + 1))) (gN M) 3 = nI 0 := v33
  simp only [z4, Option.bind_some]
  generalize stR B3 (gN M) 0 (some (gN M + 1)) = B4 at *
  have f14 : FB (fun _ => False) (1 + 0 + 1 + 0) (4 + 0 + 0 + 0) M B4 := (f12.tr f3 (fun _ _ z => z)).tr f4.fb (fun x hx e => by omega)
  have a5 : q_newA B4 14 (nI 0) = some (q_born B4 14 0) := z_newA (by omega) (by omega) (by omega)
  have f5 := FB.born (fun _ => False) B4 (by omega) 14 0
  have tB5 : (q_born B4 14 0).1 (gN M) = 3 := (t_bornx (by omega)).trans tB4
  have tP5 : (q_born B4 14 0).1 (gN M + 1) = 18 := (t_bornx (by omega)).trans tP4
  have lP5 : (q_born B4 14 0).2.1 (gN M + 1) = 0 := (l_bornx (by omega)).trans lP4
  have tZ5 : (q_born B4 14 0).1 (gN M + 2) = 14 := by rw [← n4]; exact t_bornS _ _ _
  have lZ5 : (q_born B4 14 0).2.1 (gN M + 2) = 0 := by rw [← n4]; exact l_born _ _ _
  have e50 : gR (q_born B4 14 0) (gN M) 0 = some (gN M + 1) := (gR_bornx (by omega)).trans e40
  have n5 : gN (q_born B4 14 0) = gN M + 3 := by rw [n_born]; omega
  have v25 : gI (q_born B4 14 0) (gN M) 2 = nI 0 := (gI_bornx (by omega)).trans v24
  have v35 : gI (q_born B4 14 0) (gN M) 3 = nI 0 := (gI_bornx (by omega)).trans v34
  simp only [a5, Option.bind_some, gN_d, n4]
  generalize q_born B4 14 0 = B5 at *
  have i5 : q_isT 3 (B5.1 (gN M)) = true := by rw [tB5]; rfl
  have f6 : FC (fun a => a = gN M) B5 (stR B5 (gN M) 1 (some (gN M + 2))) := (FC.rf (fun a => a = gN M) B5).sR rfl (isc_63 g)
  have z6 : q_sR B5 3 (gN M) 1 (some (gN M + 2)) = some (stR B5 (gN M) 1 (some (gN M + 2))) := z_sR i5
  have f16 : FB (fun _ => False) (1 + 0 + 1 + 0 + 1 + 0) (4 + 0 + 0 + 0 + 0 + 0) M (stR B5 (gN M) 1 (some (gN M + 2))) := (f14.tr f5 (fun _ _ z => z)).tr f6.fb (fun x hx e => by omega)
  simp only [z6, Option.bind_some]
  refine ⟨_, rfl, f16, fun u o u2 u3 => ?_⟩
  have n6 : gN (stR B5 (gN M) 1 (some (gN M + 2))) = gN M + 3 := n5
  have st : ∀ a, gN M ≤ a → a < gN M + 3 → ST (stR B5 (gN M) 1 (some (gN M + 2))) a := fun a a1 a2 => ST_new f16 g (fun z => z) ib a1 (by omega)
  refine ⟨gN M + 1, gN M + 2, ⟨tB5, ?_, ?_, tP5, tZ5, ?_, ?_, ?_, ?_, ?_, ?_, fun p hp => by omega, fun p hp => by omega⟩, st _ (by omega) (by omega), st _ (by omega) (by omega), st _ (by omega) (by omega)⟩
  · rw [gR_stR, if_neg (by omega)]; exact e50
  · rw [gR_stR, if_pos ⟨rfl, rfl⟩]
  · rw [u2]; exact Nat.zero_le _
  · rw [show (stR B5 (gN M) 1 (some (gN M + 2))).2.1 (gN M + 1) = 0 from lP5]; omega
  · rw [u3]; exact Nat.zero_le _
  · rw [show (stR B5 (gN M) 1 (some (gN M + 2))).2.1 (gN M + 2) = 0 from lZ5]; omega
  · rw [u2]; exact v25
  · rw [u3]; exact v35
theorem K_shelf_no {v : Nat → Nat} (wc : WC v) {M : q_M} (h : SH M) (c : CS M 2 v) {x y : Int32} (n : ¬ (∃ j i, j < 4 ∧ x = nI j ∧ i < v 0 ∧ y = nI i)) : q_CL 88 [.inr (.inr (some 1)), .inl x, .inl y] M = some (some (.inl (nI 0)), M) := by
  have o0 : (nI 0 = 0 ∨ nI 0 = 1) := Or.inl nI_0
  rw [C_X11_shelf]
  simp only [c_sel h, Option.bind_some, if_pos o0]
  by_cases k : ∃ i, i < v 0 ∧ y = nI i
  · obtain ⟨i, hi, rfl⟩ := k
    obtain ⟨o, o1, o2⟩ := K_cA wc h c hi
    simp only [o1, z_rR, Option.bind_some]
    rw [if_neg (by simp)]
    by_cases c0 : x < 0
    · rw [if_pos c0]
    rw [if_neg c0]
    obtain ⟨j, hj, rfl⟩ := nI_of c0
    by_cases c1 : 4 ≤ j
    · rw [if_neg (nI_nlt c1 hj)]
    · exact absurd ⟨j, i, by omega, rfl, hi, rfl⟩ n
  · simp only [K_cA_no wc h c k, z_rR, Option.bind_some]
    rw [if_pos trivial]
theorem K_shelf {v : Nat → Nat} (sv : SV v) {M : q_M} (h : SH M) (ib : IB M) (c : CS M 2 v) (hs : HS M 2 v) {i j : Nat} (hj : j < 4) (hi : i < v 0) (rn : gN M + 3 ≤ 600000) (rs : gS M + 4 ≤ 7302250) : ∃ M1, q_CL 88 [.inr (.inr (some 1)), .inl (nI j), .inl (nI i)] M = some (some (.inl (nI 1)), M1) ∧ FB (sh2 j) 3 4 M M1 ∧ HS M1 2 (shV v j i) := by
  have g := h.2.2.2
  have o1_ : (nI 1 = 0 ∨ nI 1 = 1) := Or.inr rfl
  have hc := sv.1.2 i hi
  have h8 := sv.1.1
  obtain ⟨o, o1, o2⟩ := K_cA sv.1 h c hi
  obtain ⟨t1, t2, t3, t4, t5⟩ := h_t h hj
  have i0 := h_is h hj
  have f1 : FC (sh2 j) M (stR M (15 + 2 * j) 0 (some o)) := (FC.rf (sh2 j) M).sR (Or.inl rfl) (h_isc hj (by omega))
  have n1 : gN (stR M (15 + 2 * j) 0 (some o)) = gN M := rfl
  obtain ⟨w0, M2, w1, w2, w3⟩ := K_row0 (f1.sh h) (f1.fb.ib g (by unfold sh2; omega) ib) (by omega) (show gS M + 4 ≤ 7302250 from rs)
  rw [n1] at w1 w3
  have h2 := w2.sh (f1.sh h)
  have i2 := h_is h2 hj
  have f12 : FB (sh2 j) (0 + 3) (0 + 4) M M2 := f1.fb.tr w2 (fun _ _ z => z.elim)
  have f3 : FC (sh2 j) M2 (stI (stR M2 (15 + 2 * j) 1 (some (gN M))) (15 + 2 * j) 3 (nI 0)) := ((FC.rf (sh2 j) M2).sR (Or.inl rfl) (h_isc hj (by omega))).sI (Or.inl rfl)
  have f13 : FB (sh2 j) 3 4 M (stI (stR M2 (15 + 2 * j) 1 (some (gN M))) (15 + 2 * j) 3 (nI 0)) := (f12.tr f3.fb (fun _ _ z => z)).wk (fun _ _ z => z) (by omega) (by omega)
  have kp := f13.kp g (fun a _ z => sh2_63 hj a z)
  refine ⟨_, ?_, f13, ?_⟩
  · have a4 : q_aR M 4 (nI j) = some (some (15 + 2 * j)) := (z_aR (show 17 ≤ M.1 4 ∧ M.1 4 ≤ 22 by rw [h.1 4 (by omega)]; decide) (h.2.1 4 (by omega) (by omega)) hj (by decide)).trans (congrArg some t4)
    rw [C_X11_shelf]
    simp only [c_sel h, Option.bind_some, o1, z_rR]
    rw [if_neg (by simp), if_neg (nI_pos (by omega)), if_pos (nI_lt hj (by omega))]
    simp only [c_now h (show (1, 0, 2) ∈ q_crs by decide), s_now h (show (2, 2, 4) ∈ q_crs by decide), Option.bind_some, a4, z_sel t1]
    rw [C_X5_begin]
    have i3 : q_isT 5 ((stR M2 (15 + 2 * j) 1 (some (gN M))).1 (15 + 2 * j)) = true := i2
    simp only [z_sR i0, Option.bind_some, w0, gN_d, n1, w1, z_rV, z_sR i2, z_sI i3, if_pos o1_]
  · have ob := oS_b hj
    have nj : ∀ k, k < 4 → k ≠ j → ∀ x, x < 14770 → oS k + x ≠ oS j ∧ oS k + x ≠ oS j + 1 ∧ oS k + x ≠ oS j + 2 ∧ oS k + x ≠ oS j + 3 := fun k hk ne x hx => by unfold oS; omega
    have sh : ∀ x, x ≠ oS j → x ≠ oS j + 1 → x ≠ oS j + 2 → x ≠ oS j + 3 → x ≠ 60180 + j → shV v j i x = v x := fun x a b c d e => by
      unfold shV
      rw [va_up_ne _ _ e, va_up_ne _ _ d, va_up_ne _ _ c, va_up_ne _ _ b, va_up_ne _ _ a]
    have s0 : shV v j i (oS j) = 1 := by
      unfold shV
      rw [va_up_ne _ _ (by omega), va_up_ne _ _ (by omega), va_up_ne _ _ (by omega), va_up_ne _ _ (by omega)]; exact va_up_self _ _ _
    have s1 : shV v j i (oS j + 1) = i := by
      unfold shV
      rw [va_up_ne _ _ (by omega), va_up_ne _ _ (by omega), va_up_ne _ _ (by omega)]; exact va_up_self _ _ _
    have s2 : shV v j i (oS j + 2) = 0 := by
      unfold shV
      rw [va_up_ne _ _ (by omega), va_up_ne _ _ (by omega)]; exact va_up_self _ _ _
    have s3 : shV v j i (oS j + 3) = 0 := by
      unfold shV
      rw [va_up_ne _ _ (by omega)]; exact va_up_self _ _ _
    have s4 : shV v j i (60180 + j) = 0 := va_up_self _ _ _
    refine HS.othB f13 g hj sv hs (fun x hx => sh x (by omega) (by omega) (by omega) (by omega) (by omega)) (fun k x hk ne hx => ?_) (fun k hk ne => sh _ (by omega) (by omega) (by omega) (by omega) (by omega)) (Or.inr ?_)
    · obtain ⟨n1, n2, n3, n4⟩ := nj k hk ne x hx
      have := oS_b hk
      exact sh _ n1 n2 n3 n4 (by omega)
    · rw [show 2 + 13 + 2 * j = 15 + 2 * j by omega, show 2 + 14 + 2 * j = 16 + 2 * j by omega]
      refine ⟨s0, by rw [s4]; exact gI_self, o, gN M, ?_, ?_, ?_, ?_, fun n n1 n2 => by omega⟩
      · rw [gR_stI, gR_stR, if_neg (by omega), (w2.2.2.2.2.1 (15 + 2 * j) 0 (by rw [n1]; omega) (fun z => z)).2.2, gR_stR, if_pos ⟨rfl, rfl⟩]
      · rw [s1]
        exact (o2.vu (by omega) (fun x hx => sh x (by omega) (by omega) (by omega) (by omega) (by omega))).kp kp
      · rw [gR_stI, gR_stR, if_pos ⟨rfl, rfl⟩]
      · exact (w3 _ _ s2 s3).kp (f3.kp (sh2_63 hj))
