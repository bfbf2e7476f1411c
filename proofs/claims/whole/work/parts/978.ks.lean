theorem FC.gn {P : Nat → Prop} {M M1 : q_M} (f : FC P M M1) : gN M1 = gN M := congrArg (fun x => x.1) f.2.2.1
theorem FC.gs {P : Nat → Prop} {M M1 : q_M} (f : FC P M M1) : gS M1 = gS M := congrArg (fun x => x.2) f.2.2.1
/-- a row made of another, with room for c more -/
theorem K_rowN {M : q_M} {ro po zo c : Nat} {v : Nat → Nat} {o : Nat} (h : SH M) (ib : IB M) (w : RWx M ro po zo v o) (s1 : ST M ro) (s2 : ST M po) (s3 : ST M zo) (hm : v (o + 2) ≤ 300) (hP : v (o + 3) ≤ 300) (hc : c ≤ 40) (rn : gN M + 3 ≤ 600000) (rs : gS M + 684 ≤ 7302250) : q_new M 3 4 = some (q_born M 3 4) ∧ ∃ M1, q_CL 18 [.inr (.inr (some (gN M))), .inr (.inr (some ro)), .inl (nI c)] (q_born M 3 4) = some (none, M1) ∧ FB (fun _ => False) 3 684 M M1 ∧ gN M1 = gN M + 3 ∧ RWx M1 (gN M) (gN M + 1) (gN M + 2) v o ∧ M1.2.1 (gN M + 1) = v (o + 2) + c ∧ M1.2.1 (gN M + 2) = v (o + 3) + c := by
  have g := h.2.2.2
  refine ⟨z_new (by omega) (by omega), ?_⟩
  have f1 := FB.born (fun _ => False) M g 3 4
  have t1 : (q_born M 3 4).1 (gN M) = 3 := t_bornS M 3 4
  have n1 : gN (q_born M 3 4) = gN M + 1 := rfl
  have q1 : gS (q_born M 3 4) = gS M + 4 := rfl
  generalize q_born M 3 4 = B1 at *
  -- the two numbers at 0
  have f2 : FC (fun a => a = gN M) B1 (stI (stI B1 (gN M) 2 (nI 0)) (gN M) 3 (nI 0)) := ((FC.rf (fun a => a = gN M) B1).sI rfl).sI rfl
  have i1 : q_isT 3 (B1.1 (gN M)) = true := by rw [t1]; rfl
  have i2 : q_isT 3 ((stI B1 (gN M) 2 (nI 0)).1 (gN M)) = true := i1
  have n2 : gN (stI (stI B1 (gN M) 2 (nI 0)) (gN M) 3 (nI 0)) = gN M + 1 := n1
  have q2 : gS (stI (stI B1 (gN M) 2 (nI 0)) (gN M) 3 (nI 0)) = gS M + 4 := q1
  have z2 : q_sI B1 3 (gN M) 2 (nI 0) = some (stI B1 (gN M) 2 (nI 0)) := z_sI i1
  have z3 : q_sI (stI B1 (gN M) 2 (nI 0)) 3 (gN M) 3 (nI 0) = some (stI (stI B1 (gN M) 2 (nI 0)) (gN M) 3 (nI 0)) := z_sI i2
  have tB2 : (stI (stI B1 (gN M) 2 (nI 0)) (gN M) 3 (nI 0)).1 (gN M) = 3 := t1
  rw [C_X3_init_]
  simp only [z2, Option.bind_some, z3]
  generalize stI (stI B1 (gN M) 2 (nI 0)) (gN M) 3 (nI 0) = B2 at *
  have f12 : FB (fun _ => False) (1 + 0) (4 + 0) M B2 := f1.tr f2.fb (fun x hx e => by omega)
  have w2 := w.kp s1 s2 s3 (f12.kp g (fun _ _ z => z.elim))
  have a4 : q_newA B2 18 (nI (v (o + 2) + c)) = some (q_born B2 18 (v (o + 2) + c)) := z_newA (by omega) (by omega) (by omega)
  have g2 : 63 ≤ gN B2 := by omega
  have f3 := FB.born (fun _ => False) B2 g2 18 (v (o + 2) + c)
  have tB3 : (q_born B2 18 (v (o + 2) + c)).1 (gN M) = 3 := (t_bornx (by omega)).trans tB2
  have tP3 : (q_born B2 18 (v (o + 2) + c)).1 (gN M + 1) = 18 := by rw [← n2]; exact t_bornS _ _ _
  have lP3 : (q_born B2 18 (v (o + 2) + c)).2.1 (gN M + 1) = v (o + 2) + c := by rw [← n2]; exact l_born _ _ _
  have n3 : gN (q_born B2 18 (v (o + 2) + c)) = gN M + 2 := by rw [n_born]; omega
  have q3 : gS (q_born B2 18 (v (o + 2) + c)) = gS M + 4 + (v (o + 2) + c) := by rw [s_born]; omega
  simp only [w2.f2, Option.bind_some, nI_add, a4, gN_d, n2]
  generalize q_born B2 18 (v (o + 2) + c) = B3 at *
  have i3 : q_isT 3 (B3.1 (gN M)) = true := by rw [tB3]; rfl
  have f4 : FC (fun a => a = gN M) B3 (stR B3 (gN M) 0 (some (gN M + 1))) := (FC.rf (fun a => a = gN M) B3).sR rfl (isc_63 g)
  have e40 : gR (stR B3 (gN M) 0 (some (gN M + 1))) (gN M) 0 = some (gN M + 1) := by rw [gR_stR, if_pos ⟨rfl, rfl⟩]
  have z4 : q_sR B3 3 (gN M) 0 (some (gN M + 1)) = some (stR B3 (gN M) 0 (some (gN M + 1))) := z_sR i3
  have tB4 : (stR B3 (gN M) 0 (some (gN M + 1))).1 (gN M) = 3 := tB3
  have tP4 : (stR B3 (gN M) 0 (some (gN M + 1))).1 (gN M + 1) = 18 := tP3
  have lP4 : (stR B3 (gN M) 0 (some (gN M + 1))).2.1 (gN M + 1) = v (o + 2) + c := lP3
  have n4 : gN (stR B3 (gN M) 0 (some (gN M + 1))) = gN M + 2 := n3
  have q4 : gS (stR B3 (gN M) 0 (some (gN M + 1))) = gS M + 4 + (v (o + 2) + c) := q3
  simp only [z4, Option.bind_some]
  generalize stR B3 (gN M) 0 (some (gN M + 1)) = B4 at *
  have f14 : FB (fun _ => False) (1 + 0 + 1 + 0) (4 + 0 + (v (o + 2) + c) + 0) M B4 := (f12.tr f3 (fun _ _ z => z)).tr f4.fb (fun x hx e => by omega)
  have w4 := w.kp s1 s2 s3 (f14.kp g (fun _ _ z => z.elim))
  have a5 : q_newA B4 14 (nI (v (o + 3) + c)) = some (q_born B4 14 (v (o + 3) + c)) := z_newA (by omega) (by omega) (by omega)
  have f5 := FB.born (fun _ => False) B4 (by omega) 14 (v (o + 3) + c)
  have tB5 : (q_born B4 14 (v (o + 3) + c)).1 (gN M) = 3 := (t_bornx (by omega)).trans tB4
  have tP5 : (q_born B4 14 (v (o + 3) + c)).1 (gN M + 1) = 18 := (t_bornx (by omega)).trans tP4
  have lP5 : (q_born B4 14 (v (o + 3) + c)).2.1 (gN M + 1) = v (o + 2) + c := (l_bornx (by omega)).trans lP4
  have tZ5 : (q_born B4 14 (v (o + 3) + c)).1 (gN M + 2) = 14 := by rw [← n4]; exact t_bornS _ _ _
  have lZ5 : (q_born B4 14 (v (o + 3) + c)).2.1 (gN M + 2) = v (o + 3) + c := by rw [← n4]; exact l_born _ _ _
  have e50 : gR (q_born B4 14 (v (o + 3) + c)) (gN M) 0 = some (gN M + 1) := (gR_bornx (by omega)).trans e40
  have n5 : gN (q_born B4 14 (v (o + 3) + c)) = gN M + 3 := by rw [n_born]; omega
  have q5 : gS (q_born B4 14 (v (o + 3) + c)) = gS M + 4 + (v (o + 2) + c) + (v (o + 3) + c) := by rw [s_born]; omega
  simp only [w4.f3, Option.bind_some, nI_add, a5, gN_d, n4]
  generalize q_born B4 14 (v (o + 3) + c) = B5 at *
  have i5 : q_isT 3 (B5.1 (gN M)) = true := by rw [tB5]; rfl
  have f6 : FC (fun a => a = gN M) B5 (stR B5 (gN M) 1 (some (gN M + 2))) := (FC.rf (fun a => a = gN M) B5).sR rfl (isc_63 g)
  have e60 : gR (stR B5 (gN M) 1 (some (gN M + 2))) (gN M) 0 = some (gN M + 1) := by rw [gR_stR, if_neg (by omega)]; exact e50
  have e61 : gR (stR B5 (gN M) 1 (some (gN M + 2))) (gN M) 1 = some (gN M + 2) := by rw [gR_stR, if_pos ⟨rfl, rfl⟩]
  have z6 : q_sR B5 3 (gN M) 1 (some (gN M + 2)) = some (stR B5 (gN M) 1 (some (gN M + 2))) := z_sR i5
  have i6 : q_isT 3 ((stR B5 (gN M) 1 (some (gN M + 2))).1 (gN M)) = true := i5
  have f16 : FB (fun _ => False) (1 + 0 + 1 + 0 + 1 + 0) (4 + 0 + (v (o + 2) + c) + 0 + (v (o + 3) + c) + 0) M (stR B5 (gN M) 1 (some (gN M + 2))) := (f14.tr f5 (fun _ _ z => z)).tr f6.fb (fun x hx e => by omega)
  have w6 := w.kp s1 s2 s3 (f16.kp g (fun _ _ z => z.elim))
  have z7 : q_sI (stR B5 (gN M) 1 (some (gN M + 2))) 3 (gN M) 2 (nI (v (o + 2))) = some (stI (stR B5 (gN M) 1 (some (gN M + 2))) (gN M) 2 (nI (v (o + 2)))) := z_sI i6
  have f7 : FC (fun a => a = gN M) (stR B5 (gN M) 1 (some (gN M + 2))) (stI (stR B5 (gN M) 1 (some (gN M + 2))) (gN M) 2 (nI (v (o + 2)))) := (FC.rf (fun a => a = gN M) _).sI rfl
  have w7 := w.kp s1 s2 s3 ((f16.tr f7.fb (fun x hx e => by omega)).kp g (fun _ _ z => z.elim))
  have z8 : q_sI (stI (stR B5 (gN M) 1 (some (gN M + 2))) (gN M) 2 (nI (v (o + 2)))) 3 (gN M) 3 (nI (v (o + 3))) = some (stI (stI (stR B5 (gN M) 1 (some (gN M + 2))) (gN M) 2 (nI (v (o + 2)))) (gN M) 3 (nI (v (o + 3)))) := z_sI i6
  have f8 : FC (fun a => a = gN M) (stR B5 (gN M) 1 (some (gN M + 2))) (stI (stI (stR B5 (gN M) 1 (some (gN M + 2))) (gN M) 2 (nI (v (o + 2)))) (gN M) 3 (nI (v (o + 3)))) := ((FC.rf (fun a => a = gN M) _).sI rfl).sI rfl
  have f18 := f16.tr f8.fb (fun x hx e => by omega)
  have w8 := w.kp s1 s2 s3 (f18.kp g (fun _ _ z => z.elim))
  simp only [z6, Option.bind_some, w6.f2, z7, w7.f3, z8]
  have h8 : SH (stI (stI (stR B5 (gN M) 1 (some (gN M + 2))) (gN M) 2 (nI (v (o + 2)))) (gN M) 3 (nI (v (o + 3)))) := f18.sh h
  obtain ⟨M1, u1, u2, u3⟩ := K_rn (c := c) h8 w8 hm hP hc tB5 e60 e61 tP5 tZ5 lP5 lZ5 ((gI_oth (by omega)).trans gI_self) gI_self (by have := s2.2.1; omega) (by have := s3.2.1; omega) ⟨by omega, by omega, by omega⟩
  refine ⟨M1, u1, (f18.tr u2.fb (fun x hx e => by rcases e with e | e | e <;> omega)).wk (fun _ _ z => z) (by omega) (by omega), ?_, u3, ?_, ?_⟩
  · rw [u2.gn]; exact n5
  · rw [u2.2.1]; exact lP5
  · rw [u2.2.1]; exact lZ5
/-- a point's own constructor -/
theorem K_p14 {M : q_M} {c : Nat} (t : M.1 c = 2) (g : 63 ≤ c) (x1 : Int32) (l2 : Int64) (x4 x5 x6 x7 : Int32) : ∃ M1, q_CL 14 [.inr (.inr (some c)), .inl x1, .inr (.inl l2), .inl x4, .inl x5, .inl x6, .inl x7] M = some (none, M1) ∧ FC (fun a => a = c) M M1 ∧ gI M1 c 0 = x1 ∧ gL M1 c 1 = l2 ∧ gI M1 c 2 = x4 ∧ gI M1 c 3 = x5 ∧ gI M1 c 4 = x6 ∧ gI M1 c 5 = x7 := by
  have i : q_isT 2 (M.1 c) = true := by rw [t]; rfl
  refine ⟨stI (stI (stI (stI (stL (stI M c 0 x1) c 1 l2) c 2 x4) c 3 x5) c 4 x6) c 5 x7, ?_, ?_, ?_, ?_, ?_, ?_, ?_, gI_self⟩
  · rw [C_X2_init]
    rw [z_sI i]
    simp only [Option.bind_some]
    rw [z_sL (show q_isT 2 ((stI M c 0 x1).1 c) = true from i)]
    simp only [Option.bind_some]
    rw [z_sI (show q_isT 2 ((stL (stI M c 0 x1) c 1 l2).1 c) = true from i)]
    simp only [Option.bind_some]
    rw [z_sI (show q_isT 2 ((stI (stL (stI M c 0 x1) c 1 l2) c 2 x4).1 c) = true from i)]
    simp only [Option.bind_some]
    rw [z_sI (show q_isT 2 ((stI (stI (stL (stI M c 0 x1) c 1 l2) c 2 x4) c 3 x5).1 c) = true from i)]
    simp only [Option.bind_some]
    rw [z_sI (show q_isT 2 ((stI (stI (stI (stL (stI M c 0 x1) c 1 l2) c 2 x4) c 3 x5) c 4 x6).1 c) = true from i)]
    simp only [Option.bind_some]
  · exact ((((((FC.rf (fun a => a = c) M).sI rfl).sL rfl).sI rfl).sI rfl).sI rfl).sI rfl
  · rw [gI_oth (by omega), gI_oth (by omega), gI_oth (by omega), gI_oth (by omega), gI_stL]; exact gI_self
  · exact gL_self
  · rw [gI_oth (by omega), gI_oth (by omega), gI_oth (by omega)]; exact gI_self
  · rw [gI_oth (by omega), gI_oth (by omega)]; exact gI_self
  · rw [gI_oth (by omega)]; exact gI_self
/-- a point is born, its number is asked for, it is filled -/
theorem K_ptN {v : Nat → Nat} {i nm wt : Nat} {q : Nat → Nat} (hc : okI v i) {M : q_M} {o : Nat} (h : SH M) (ib : IB M) (co : CO M o (cK v i) (cD v i) (cL v i) i) (wz : WZ M) (hq : ∀ a, a < 3 → q a < cB (cK v i) ^ cL v i a) (rn : gN M + 1 ≤ 600000) (rs : gS M + 6 ≤ 7302250) : q_new M 2 6 = some (q_born M 2 6) ∧ ∃ B M1, q_CL 73 [.inr (.inr (some 25)), .inr (.inr (some o)), .inl (nI (q 0)), .inl (nI (q 1)), .inl (nI (q 2))] (q_born M 2 6) = some (some (.inr (.inl (lN (npI v i q)))), B) ∧ q_CL 14 [.inr (.inr (some (gN M))), .inl (nI nm), .inr (.inl (lN (npI v i q))), .inl (nI (q 0)), .inl (nI (q 1)), .inl (nI (q 2)), .inl (nI wt)] B = some (none, M1) ∧ FB wsc 1 6 M M1 ∧ gN M1 = gN M + 1 ∧ WZ M1 ∧ PO M1 (gN M) (cP nm q wt (npI v i q)) := by
  have g := h.2.2.2
  refine ⟨z_new (by omega) (by omega), ?_⟩
  have f1 := FB.born wsc M g 2 6
  have k1 : KP M (q_born M 2 6) := f1.kp g (fun a _ z => by unfold wsc at z; omega)
  have wz1 : WZ (q_born M 2 6) := ⟨(gI_bornx (by omega)).trans wz.1, (gL_bornx (by omega)).trans wz.2⟩
  obtain ⟨B, u1, u2, u3, u4⟩ := K_numOf hc.1 (f1.sh h) (co.kp k1) wz1.1 wz1.2 hq
  have tB : B.1 (gN M) = 2 := by rw [u2.1]; exact t_bornS M 2 6
  obtain ⟨M1, w1, w2, w3, w4, w5, w6, w7, w8⟩ := K_p14 tB g (nI nm) (lN (npI v i q)) (nI (q 0)) (nI (q 1)) (nI (q 2)) (nI wt)
  have n1 : gN M1 = gN M + 1 := by rw [w2.gn, u2.gn]; rfl
  have fb : FB wsc 1 6 M M1 := ((f1.tr u2.fb (fun _ _ z => z)).tr w2.fb (fun x hx e => by omega)).wk (fun _ _ z => z) (by omega) (by omega)
  refine ⟨B, M1, u1, w1, fb, n1, WZ.fc w2 ⟨by omega, by omega⟩ ⟨u3, u4⟩, ?_⟩
  exact ⟨by rw [w2.1]; exact tB, w3, w4, w5, w6, w7, w8, ST_new fb g (by unfold wsc; omega) ib (Nat.le_refl _) (by omega)⟩
