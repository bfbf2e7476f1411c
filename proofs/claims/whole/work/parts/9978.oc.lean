/-! ===== THE CLASS: curve, its call ===== -/
theorem K_can {M : q_M} (x1 x2 x3 x4 x5 : Int32) : (¬ crI x1 x2 x3 x4 x5 ∧ q_CL 86 [.inl x1, .inl x2, .inl x3, .inl x4, .inl x5] M = some (some (.inl (nI 0)), M)) ∨ (crI x1 x2 x3 x4 x5 ∧ q_CL 86 [.inl x1, .inl x2, .inl x3, .inl x4, .inl x5] M = some (some (.inl (nI 1)), M)) := by
  have t0 : nI 0 = 0 ∨ nI 0 = 1 := Or.inl rfl
  have t1 : nI 1 = 0 ∨ nI 1 = 1 := Or.inr rfl
  rw [C_X11_canBeCurve]
  simp only [if_pos t0]
  by_cases h0 : x1 < 0
  · left
    refine ⟨?_, if_pos h0⟩
    rintro ⟨K, d, a, b, c, rfl, _, _, _, _, g⟩
    exact nI_pos (by have := g.1; omega) h0
  rw [if_neg h0]
  obtain ⟨K, hK, rfl⟩ := nI_of h0
  have uK : ∀ K', K' ≤ 4 → nI K = nI K' → K' = K := fun K' h1 h2 => ((nI_eq (by omega) (by omega)).mp h2).symm
  by_cases k4 : 4 < K
  · left
    refine ⟨?_, if_pos (nI_lt k4 hK)⟩
    rintro ⟨K', d, a, b, c, e, _, _, _, _, g⟩
    have := uK K' g.1 e
    have := g.1
    omega
  rw [if_neg (nI_nlt (by omega) (by omega))]
  rcases rg2 x2 (lo := 2) (hi := 3) (by omega) (by omega) with z | ⟨z1, z2⟩ | ⟨d, hd1, hd2, rfl, z1, z2⟩
  · left
    refine ⟨?_, if_pos z⟩
    rintro ⟨K', d, a, b, c, _, rfl, _, _, _, g⟩
    exact nI_nlt (show 2 ≤ d by have := g.2.1; omega) (by have := g.2.1; omega) z
  · left
    have z3 : ¬ x2 ≤ nI 3 := fun y => by
      have a1 := Int32.le_iff_toInt_le.mp y
      have a2 := Int32.lt_iff_toInt_lt.mp z2
      omega
    refine ⟨?_, by rw [if_neg z1, if_neg z3]⟩
    rintro ⟨K', d, a, b, c, _, rfl, _, _, _, g⟩
    exact z3 (nI_le (by have := g.2.1; omega) (by omega))
  rw [if_neg z1, if_pos (nI_le hd2 (by omega))]
  have ud : ∀ d', d' = 2 ∨ d' = 3 → nI d = nI d' → d' = d := fun d' h1 h2 => ((nI_eq (by omega) (by omega)).mp h2).symm
  have em : (if nI K = nI 3 then q_RL T_X11_canBeCurve (33, [some (.inl (nI K)), some (.inl (nI d)), some (.inl x3), some (.inl x4), some (.inl x5), none], [.inl (nI 12)], M) else q_RL T_X11_canBeCurve (33, [some (.inl (nI K)), some (.inl (nI d)), some (.inl x3), some (.inl x4), some (.inl x5), none], [.inl (nI 20)], M)) = q_RL T_X11_canBeCurve (33, [some (.inl (nI K)), some (.inl (nI d)), some (.inl x3), some (.inl x4), some (.inl x5), none], [.inl (nI (if K = 3 then 12 else 20))], M) := by
    by_cases k3 : K = 3
    · rw [if_pos (by rw [k3]), if_pos k3]
    · rw [if_neg (fun z => k3 ((nI_eq (by omega) (by omega)).mp z)), if_neg k3]
  rw [em, E_X11_canBeCurve_33]
  simp only [if_pos t0, if_pos t1]
  have hm : (if K = 3 then 12 else 20) ≤ 20 ∧ 12 ≤ (if K = 3 then 12 else 20) := by split <;> omega
  rcases rg2 x3 (lo := 1) (hi := if K = 3 then 12 else 20) (by omega) (by omega) with z | ⟨z1, z2⟩ | ⟨a, ha1, ha2, rfl, z1, z2⟩
  · left
    refine ⟨?_, if_pos z⟩
    rintro ⟨K', d', a, b, c, _, _, rfl, _, _, g⟩
    exact nI_nlt g.2.2.1 (by have := (crG_20 g).2.2.1; omega) z
  · left
    have z3 : ¬ x3 ≤ nI (if K = 3 then 12 else 20) := fun y => by
      have a1 := Int32.le_iff_toInt_le.mp y
      have a2 := Int32.lt_iff_toInt_lt.mp z2
      omega
    refine ⟨?_, by rw [if_neg z1, if_neg z3]⟩
    rintro ⟨K', d', a, b, c, e, _, rfl, _, _, g⟩
    have := uK K' g.1 e
    subst this
    exact z3 (nI_le g.2.2.2.1 (by omega))
  rw [if_neg z1, if_pos (nI_le ha2 (by omega))]
  have ua : ∀ a', a' ≤ 20 → nI a = nI a' → a' = a := fun a' h1 h2 => ((nI_eq (by omega) (by omega)).mp h2).symm
  by_cases own : K = 0 ∨ K = 4
  · have e72 : (if nI K = 0 then q_RL T_X11_canBeCurve (72, [some (.inl (nI K)), some (.inl (nI d)), some (.inl (nI a)), some (.inl x4), some (.inl x5), some (.inl (nI (if K = 3 then 12 else 20)))], [], M) else if nI K = nI 4 then q_RL T_X11_canBeCurve (72, [some (.inl (nI K)), some (.inl (nI d)), some (.inl (nI a)), some (.inl x4), some (.inl x5), some (.inl (nI (if K = 3 then 12 else 20)))], [], M) else if x4 = 0 then if x5 = 0 then some (some (.inl (nI 1)), M) else some (some (.inl (nI 0)), M) else some (some (.inl (nI 0)), M)) = q_RL T_X11_canBeCurve (72, [some (.inl (nI K)), some (.inl (nI d)), some (.inl (nI a)), some (.inl x4), some (.inl x5), some (.inl (nI 20))], [], M) := by
      rcases own with rfl | rfl
      · rw [if_pos nI_0]; rfl
      · rw [if_neg (by decide +kernel), if_pos rfl]; rfl
    rw [e72, E_X11_canBeCurve_72]
    simp only [if_pos t0, if_pos t1]
    rcases rg2 x4 (lo := 1) (hi := 20) (by omega) (by omega) with z | ⟨y1, y2⟩ | ⟨b, hb1, hb2, rfl, y1, y2⟩
    · left
      refine ⟨?_, if_pos z⟩
      rintro ⟨K', d', a', b, c, e, _, _, rfl, _, g⟩
      have := uK K' g.1 e
      subst this
      exact nI_nlt (g.2.2.2.2.1 own).1 (by have := (g.2.2.2.2.1 own).2.1; omega) z
    · left
      refine ⟨?_, by rw [if_neg y1, if_pos y2]⟩
      rintro ⟨K', d', a', b, c, e, _, _, rfl, _, g⟩
      have := uK K' g.1 e
      subst this
      exact nI_nlt (g.2.2.2.2.1 own).2.1 (by omega) y2
    rw [if_neg y1, if_neg y2]
    by_cases d2 : d = 2
    · rw [if_pos (by rw [d2])]
      by_cases c0 : x5 = 0
      · right
        rw [if_pos c0]
        exact ⟨⟨K, d, a, b, 0, rfl, rfl, rfl, rfl, by rw [c0]; exact nI_0.symm, by omega, by omega, ha1, ha2, fun _ => ⟨hb1, hb2, fun _ => rfl, fun z => by omega⟩, fun z => absurd own z⟩, rfl⟩
      · left
        rw [if_neg c0]
        refine ⟨?_, rfl⟩
        rintro ⟨K', d', a', b', c, e, e2, _, _, rfl, g⟩
        have := uK K' g.1 e
        subst this
        have := ud d' g.2.1 e2
        subst this
        exact c0 (by rw [(g.2.2.2.2.1 own).2.2.1 d2]; exact nI_0)
    · have d3 : d = 3 := by omega
      rw [if_neg (fun z => d2 ((nI_eq (by omega) (by omega)).mp z))]
      rcases rg2 x5 (lo := 1) (hi := 20) (by omega) (by omega) with z | ⟨u1, u2⟩ | ⟨c, hc1, hc2, rfl, u1, u2⟩
      · left
        refine ⟨?_, if_pos z⟩
        rintro ⟨K', d', a', b', c, e, e2, _, _, rfl, g⟩
        have := uK K' g.1 e
        subst this
        have := ud d' g.2.1 e2
        subst this
        exact nI_nlt ((g.2.2.2.2.1 own).2.2.2 d3).1 (by have := ((g.2.2.2.2.1 own).2.2.2 d3).2; omega) z
      · left
        refine ⟨?_, by rw [if_neg u1, if_pos u2]⟩
        rintro ⟨K', d', a', b', c, e, e2, _, _, rfl, g⟩
        have := uK K' g.1 e
        subst this
        have := ud d' g.2.1 e2
        subst this
        exact nI_nlt ((g.2.2.2.2.1 own).2.2.2 d3).2 (by omega) u2
      · right
        rw [if_neg u1, if_neg u2]
        exact ⟨⟨K, d, a, b, c, rfl, rfl, rfl, rfl, rfl, by omega, by omega, ha1, ha2, fun _ => ⟨hb1, hb2, fun z => by omega, fun _ => ⟨hc1, hc2⟩⟩, fun z => absurd own z⟩, rfl⟩
  · rw [if_neg (nI_ne0 (by omega) (by omega)), if_neg (fun z => own (Or.inr ((nI_eq (by omega) (by omega)).mp z)))]
    by_cases b0 : x4 = 0
    · rw [if_pos b0]
      by_cases c0 : x5 = 0
      · right
        rw [if_pos c0]
        exact ⟨⟨K, d, a, 0, 0, rfl, rfl, rfl, by rw [b0]; exact nI_0.symm, by rw [c0]; exact nI_0.symm, by omega, by omega, ha1, ha2, fun z => absurd z own, fun _ => ⟨rfl, rfl⟩⟩, rfl⟩
      · left
        rw [if_neg c0]
        refine ⟨?_, rfl⟩
        rintro ⟨K', d', a', b', c, e, e2, _, _, rfl, g⟩
        have := uK K' g.1 e
        subst this
        exact c0 (by rw [(g.2.2.2.2.2 own).2]; exact nI_0)
    · left
      rw [if_neg b0]
      refine ⟨?_, rfl⟩
      rintro ⟨K', d', a', b', c, e, e2, _, rfl, _, g⟩
      have := uK K' g.1 e
      subst this
      exact b0 (by rw [(g.2.2.2.2.2 own).1]; exact nI_0)
theorem K_curve_no {v : Nat → Nat} (wc : WC v) {M : q_M} (h : SH M) (cs : CS M 2 v) {x1 x2 x3 x4 x5 : Int32} (n : ¬ (v 0 < 8 ∧ crI x1 x2 x3 x4 x5)) : q_CL 81 [.inr (.inr (some 1)), .inl x1, .inl x2, .inl x3, .inl x4, .inl x5] M = some (some (.inl (-1)), M) := by
  have v8 := wc.1
  rw [C_X11_curve]
  simp only [c_now h (show (1, 0, 2) ∈ q_crs by decide), Option.bind_some, y_fI h (show 2 < 63 by omega) (show q_isT 8 (q_tgs.getD 2 0) = true from rfl), cs.1]
  by_cases c8 : 8 ≤ v 0
  · rw [if_pos (nI_le c8 (by omega))]
  rw [if_neg (nI_ge (by omega) (by omega))]
  rcases K_can (M := M) x1 x2 x3 x4 x5 with ⟨_, e⟩ | ⟨y, _⟩
  · simp only [e, z_rI, Option.bind_some]
    rw [if_pos nI_0]
  · exact absurd ⟨by omega, y⟩ n
theorem K_cvT {B : q_M} (h : SH B) {n c : Nat} (hn : n < 8) (tc : B.1 c = 0 ∨ B.1 c = 6 ∨ B.1 c = 9) : ∃ M1, (((q_fR B 11 1 0).bind fun r37 => r37.bind fun a38 => (q_fR B 8 a38 0).bind fun r39 => r39.bind fun a40 => (q_bR B a40 (nI n) (some c)).bind fun M41 => (q_fR M41 11 1 0).bind fun r42 => r42.bind fun a43 => (q_sI M41 8 a43 1 (nI n + (nI 1))).bind fun M44 => some (some (.inl (nI n)), M44)) : Option (Option q_V × q_M)) = some (some (.inl (nI n)), M1) ∧ FC (fun a => a = 2 ∨ a = 3) B M1 ∧ gI M1 2 1 = nI (n + 1) ∧ gR M1 3 n = some c ∧ ∀ k, k ≠ n → gR M1 3 k = gR B 3 k := by
  have t3 : B.1 3 = 17 := h.tg (by omega) rfl
  have i3 : ∀ k, q_isc 3 k = false := fun k => isc_st (d := 2) (x := 1) (Or.inl rfl) (by omega) (fun e he z => (show ∀ e ∈ stF, e.1 ≠ 1 by decide) e he z.1)
  have may : q_may B (B.1 3) (some c) = true := by
    rw [t3]
    show (Nat.beq (B.1 c) 0 || Nat.beq (B.1 c) 6 || Nat.beq (B.1 c) 9) = true
    rcases tc with z | z | z <;> rw [z] <;> rfl
  have zb : q_bR B 3 (nI n) (some c) = some (stR B 3 n (some c)) := z_bR (n := 8) ⟨by omega, by omega, may⟩ (h.ln (by omega) (by omega) rfl) hn (by omega)
  have hB : SH (stR B 3 n (some c)) := SH_stR (i3 n) h
  refine ⟨stI (stR B 3 n (some c)) 2 1 (nI (n + 1)), ?_, ((FC.rf _ B).sR (Or.inr rfl) (i3 n)).sI (Or.inl rfl), by rw [gI_stI, if_pos ⟨rfl, rfl⟩], by rw [gR_stI, gR_stR, if_pos ⟨rfl, rfl⟩], fun k hk => by rw [gR_stI, gR_stR, if_neg (fun z => hk z.2)]⟩
  simp only [c_now h (show (1, 0, 2) ∈ q_crs by decide), s_now h (show (2, 0, 3) ∈ q_crs by decide), Option.bind_some, zb, c_now hB (show (1, 0, 2) ∈ q_crs by decide), nI_add, y_sI hB (show 2 < 63 by omega) (show q_isT 8 (q_tgs.getD 2 0) = true from rfl)]
theorem K_curve {v : Nat → Nat} (wc : WC v) {M : q_M} (h : SH M) (ib : IB M) (cs : CS M 2 v) (h8 : v 0 < 8) {K d a b c : Nat} (hg : crG K d a b c) (rn : gN M + 4 ≤ 600000) (rs : gS M + 80 ≤ 7302250) : ∃ M1, q_CL 81 [.inr (.inr (some 1)), .inl (nI K), .inl (nI d), .inl (nI a), .inl (nI b), .inl (nI c)] M = some (some (.inl (nI (v 0))), M1) ∧ FB (fun a => a = 2 ∨ a = 3) 4 80 M M1 ∧ CS M1 2 (crV v K d (crL K d a b c)) := by
  have g63 := h.2.2.2
  have b20 := crG_20 hg
  have hd := hg.2.1
  have ok := crG_ok hg
  have hL : ∀ x, x < 3 → crL K d a b c x ≤ 20 := ok.2.2.1
  have zn : q_newA M 14 (nI 3) = some (q_born M 14 3) := z_newA (by omega) (by omega) (by omega)
  have fb := FB.born (fun a => a = 2 ∨ a = 3) M g63 14 3
  have fb0 := FB.born (fun _ => False) M g63 14 3
  have tB : (q_born M 14 3).1 (gN M) = 14 := t_bornS M 14 3
  have lB : (q_born M 14 3).2.1 (gN M) = 3 := l_born M 14 3
  have nB : gN (q_born M 14 3) = gN M + 1 := rfl
  have sB : gS (q_born M 14 3) = gS M + 3 := rfl
  have fin : ∀ A, FC (fun a => a = gN M) (q_born M 14 3) A → (∀ x, x < 3 → gI A (gN M) x = nI (crL K d a b c x)) → ∃ M1, (((q_fR A 11 1 0).bind fun r5 => r5.bind fun a6 => (q_fI A 8 a6 1).bind fun x7 => if (nI K) = (nI 2) then (q_new A 9 6).bind fun M37 => (q_rV (q_CL 62 [.inr (.inr (some A.2.2.2.2.2.1)), .inl x7, .inl (nI d), .inr (.inr (some (gN M)))] M37)).bind fun M38 => (q_fR M38 11 1 0).bind fun r39 => r39.bind fun a40 => (q_fR M38 8 a40 0).bind fun r41 => r41.bind fun a42 => (q_bR M38 a42 x7 (some A.2.2.2.2.2.1)).bind fun M43 => (q_fR M43 11 1 0).bind fun r44 => r44.bind fun a45 => (q_sI M43 8 a45 1 (x7 + (nI 1))).bind fun M46 => some (some (.inl x7), M46) else if (nI K) = (nI 3) then (q_new A 6 6).bind fun M27 => (q_rV (q_CL 49 [.inr (.inr (some A.2.2.2.2.2.1)), .inl x7, .inl (nI d), .inr (.inr (some (gN M)))] M27)).bind fun M28 => (q_fR M28 11 1 0).bind fun r29 => r29.bind fun a30 => (q_fR M28 8 a30 0).bind fun r31 => r31.bind fun a32 => (q_bR M28 a32 x7 (some A.2.2.2.2.2.1)).bind fun M33 => (q_fR M33 11 1 0).bind fun r34 => r34.bind fun a35 => (q_sI M33 8 a35 1 (x7 + (nI 1))).bind fun M36 => some (some (.inl x7), M36) else (q_new A 0 6).bind fun M8 => if (nI K) = 0 then (q_rV (q_CL 0 [.inr (.inr (some A.2.2.2.2.2.1)), .inl x7, .inl (nI d), .inl (nI 2), .inr (.inr (some (gN M))), .inl (nI 1)] M8)).bind fun M18 => (q_fR M18 11 1 0).bind fun r19 => r19.bind fun a20 => (q_fR M18 8 a20 0).bind fun r21 => r21.bind fun a22 => (q_bR M18 a22 x7 (some A.2.2.2.2.2.1)).bind fun M23 => (q_fR M23 11 1 0).bind fun r24 => r24.bind fun a25 => (q_sI M23 8 a25 1 (x7 + (nI 1))).bind fun M26 => some (some (.inl x7), M26) else (q_rV (q_CL 0 [.inr (.inr (some A.2.2.2.2.2.1)), .inl x7, .inl (nI d), .inl (nI 2), .inr (.inr (some (gN M))), .inl (nI 0)] M8)).bind fun M9 => (q_fR M9 11 1 0).bind fun r10 => r10.bind fun a11 => (q_fR M9 8 a11 0).bind fun r12 => r12.bind fun a13 => (q_bR M9 a13 x7 (some A.2.2.2.2.2.1)).bind fun M14 => (q_fR M14 11 1 0).bind fun r15 => r15.bind fun a16 => (q_sI M14 8 a16 1 (x7 + (nI 1))).bind fun M17 => some (some (.inl x7), M17)) : Option (Option q_V × q_M)) = some (some (.inl (nI (v 0))), M1) ∧ FB (fun a => a = 2 ∨ a = 3) 4 80 M M1 ∧ CS M1 2 (crV v K d (crL K d a b c)) := by
    intro A f gl
    generalize q_born M 14 3 = B at *
    have fA : FB (fun a => a = 2 ∨ a = 3) (1 + 0) (3 + 0) M A := fb.tr f.fb (fun x hx z => by omega)
    have hA := fA.sh h
    have nA : gN A = gN M + 1 := by rw [f.gn]; exact nB
    have sA : gS A = gS M + 3 := by rw [f.gs]; exact sB
    have cA : gI A 2 1 = nI (v 0) := by rw [(f.2.2.2.1 2 1 (by omega)).1, (fb0.2.2.2.2.1 2 1 (by omega) (fun z => z)).1]; exact cs.1
    have tg0 : A.1 (gN M) = 14 := by rw [f.1]; exact tB
    have ln0 : A.2.1 (gN M) = 3 := by rw [f.2.1]; exact lB
    -- the object of tag t, base B, order ro
    have obj : ∀ t ro, q_isT 0 t = true → (ro = 0 ∨ ro = 1) → t = kT K → (ro = 1 ↔ K = 0) → q_new A t 6 = some (q_born A t 6) ∧ ∃ D, q_CL 0 [.inr (.inr (some (gN M + 1))), .inl (nI (v 0)), .inl (nI d), .inl (nI (cB K)), .inr (.inr (some (gN M))), .inl (nI ro)] (q_born A t 6) = some (none, D) ∧ SH D ∧ D.1 (gN M + 1) = t ∧ ∀ M1, FC (fun a => a = 2 ∨ a = 3) D M1 → gI M1 2 1 = nI (v 0 + 1) → gR M1 3 (v 0) = some (gN M + 1) → (∀ k, k ≠ v 0 → gR M1 3 k = gR D 3 k) → FB (fun a => a = 2 ∨ a = 3) 4 80 M M1 ∧ CS M1 2 (crV v K d (crL K d a b c)) := by
      intro t ro ht hro et er
      have fb2 := FB.born (fun a => a = 2 ∨ a = 3) A (by omega) t 6
      have fb3 := FB.born (fun _ => False) A (by omega) t 6
      have tE : (q_born A t 6).1 (gN M + 1) = t := by rw [← nA]; exact t_bornS A t 6
      have nE : gN (q_born A t 6) = gN M + 2 := by rw [n_born]; omega
      have sE : gS (q_born A t 6) = gS M + 9 := by rw [s_born]; omega
      have tl : (q_born A t 6).1 (gN M) = 14 := (t_bornx (by omega)).trans tg0
      have ll : (q_born A t 6).2.1 (gN M) = 3 := (l_bornx (by omega)).trans ln0
      have gl2 : ∀ x, x < 3 → gI (q_born A t 6) (gN M) x = nI (crL K d a b c x) := fun x hx => (gI_bornx (by omega)).trans (gl x hx)
      refine ⟨z_new (by omega) (by omega), ?_⟩
      generalize q_born A t 6 = E at *
      obtain ⟨D, d1, d2, d3, d4, d5, d6, d7, d8, d9, d10, d11, d12, d13, d14, d15⟩ := K_cinit (M := E) (by omega) (c := gN M + 1) (lr := gN M) (B := cB K) (i := v 0) (d := d) (ro := ro) (L := crL K d a b c) (by rw [tE]; exact ht) ⟨by omega, by omega⟩ (by omega) (by omega) tl ll gl2 hL (by have := cB_2 K; omega) (fun x hx => by have := (room_c ok hx).2; omega) hro (by omega) (by omega)
      rw [nE] at d3 d8 d9 d10 d11 d12 d13 d14 d15
      have fD : FB (fun a => a = 2 ∨ a = 3) (1 + 0 + 1 + 2) (3 + 0 + 6 + 63) M D := (fA.tr fb2 (fun x hx z => z)).tr d2 (fun x hx z => by omega)
      refine ⟨D, d1, fD.sh h, by rw [(d2.2.2.2.1 _ (by omega)).1]; exact tE, fun M1 m1 m2 m3 m4 => ?_⟩
      have fM : FB (fun a => a = 2 ∨ a = 3) 4 80 M M1 := (fD.tr m1.fb (fun x hx z => z)).wk (fun _ _ z => z) (by omega) (by omega)
      refine ⟨fM, ?_⟩
      obtain ⟨u1, u2, u3, u4, u5, u6⟩ := crV_a v K d (crL K d a b c)
      have kp : KP M M1 := fM.kp g63 (fun x hx z => by omega)
      have n1 : gN M1 = gN M + 4 := by rw [m1.gn, d3]
      refine ⟨by rw [u5]; exact m2, fun i hi => ?_⟩
      rw [u5] at hi
      by_cases e : i = v 0
      · subst e
        have st : ∀ x, gN M ≤ x → x < gN M + 4 → ST M1 x := fun x h1 h2 => ST_new fM g63 (by omega) ib h1 (by omega)
        have oD : ∀ x k, gN M ≤ x → gI M1 x k = gI D x k ∧ gL M1 x k = gL D x k ∧ gR M1 x k = gR D x k := fun x k hx => m1.2.2.2.1 x k (by omega)
        refine ⟨gN M + 1, m3, ?_⟩
        rw [u1, u2]
        refine CO.cg (L := crL K d a b c) ?_ u3
        refine ⟨by rw [m1.1, (d2.2.2.2.1 _ (by omega)).1, tE]; exact et, by rw [(oD _ 0 (by omega)).1]; exact d4, by rw [(oD _ 1 (by omega)).1]; exact d5, by rw [(oD _ 2 (by omega)).1]; exact d6, by rw [(oD _ 5 (by omega)).2.1]; exact d7, st _ (by omega) (by omega), gN M + 2, gN M + 2 + 1, by rw [(oD _ 3 (by omega)).2.2]; exact d8, by rw [m1.1]; exact d10, by rw [m1.2.1]; exact d11, fun x hx => by rw [(oD _ x (by omega)).1]; exact d12 x hx, by rw [(oD _ 4 (by omega)).2.2]; exact d9, by rw [m1.1]; exact d13, by rw [m1.2.1]; exact d14, fun k hk => ?_, st _ (by omega) (by omega), st _ (by omega) (by omega)⟩
        rw [(oD _ k (by omega)).1, d15 k hk]
        unfold owK
        by_cases z : K = 0
        · rw [if_pos z, if_pos (er.mpr z)]
        · rw [if_neg z, if_neg (fun y => z (er.mp y))]
      · obtain ⟨o, o1, o2⟩ := cs.2 i (by omega)
        refine ⟨o, ?_, ?_⟩
        · rw [m4 i e, (d2.2.2.2.2.1 3 i (by omega) (by omega)).2.2]
          rw [(fb3.2.2.2.2.1 3 i (by omega) (fun z => z)).2.2, (f.2.2.2.1 3 i (by omega)).2.2, (fb0.2.2.2.2.1 3 i (by omega) (fun z => z)).2.2]
          exact o1
        · have e1 : cK (crV v K d (crL K d a b c)) i = cK v i := u6 _ (by omega) (Or.inl (by omega))
          have e2 : cD (crV v K d (crL K d a b c)) i = cD v i := u6 _ (by omega) (Or.inl (by omega))
          rw [e1, e2]
          exact CO.cg (o2.kp kp) (fun x hx => u6 _ (by omega) (Or.inl (by omega)))
    have fI8 : q_fI A 8 2 1 = some (nI (v 0)) := (y_fI hA (by omega) rfl).trans (congrArg some cA)
    by_cases k2 : K = 2
    · obtain ⟨z1, D, z2, hD, tD, z3⟩ := obj 9 0 rfl (Or.inl rfl) (by rw [k2]; rfl) (by omega)
      obtain ⟨M1, w1, w2, w3, w4, w5⟩ := K_cvT hD h8 (c := gN M + 1) (Or.inr (Or.inr tD))
      refine ⟨M1, ?_, z3 M1 w2 w3 w4 w5⟩
      have c2 : cB K = 2 := by rw [k2]; rfl
      rw [c2] at z2
      simp only [c_now hA (show (1, 0, 2) ∈ q_crs by decide), Option.bind_some, fI8]
      rw [if_pos (by rw [k2])]
      simp only [gN_d, nA, z1, Option.bind_some, C_X9_init, z2, z_rV]
      exact w1
    · by_cases k3 : K = 3
      · obtain ⟨z1, D, z2, hD, tD, z3⟩ := obj 6 0 rfl (Or.inl rfl) (by rw [k3]; rfl) (by omega)
        obtain ⟨M1, w1, w2, w3, w4, w5⟩ := K_cvT hD h8 (c := gN M + 1) (Or.inr (Or.inl tD))
        refine ⟨M1, ?_, z3 M1 w2 w3 w4 w5⟩
        have c3 : cB K = 3 := by rw [k3]; rfl
        rw [c3] at z2
        simp only [c_now hA (show (1, 0, 2) ∈ q_crs by decide), Option.bind_some, fI8]
        rw [if_neg (fun z => k2 ((nI_eq (by omega) (by omega)).mp z)), if_pos (by rw [k3])]
        simp only [gN_d, nA, z1, Option.bind_some, C_X6_init, z2, z_rV]
        exact w1
      · have c2 : cB K = 2 := by unfold cB; rw [if_neg k3]
        have kt : 0 = kT K := by unfold kT; rw [if_neg k2, if_neg k3]
        by_cases k0 : K = 0
        · obtain ⟨z1, D, z2, hD, tD, z3⟩ := obj 0 1 rfl (Or.inr rfl) kt (by omega)
          obtain ⟨M1, w1, w2, w3, w4, w5⟩ := K_cvT hD h8 (c := gN M + 1) (Or.inl tD)
          refine ⟨M1, ?_, z3 M1 w2 w3 w4 w5⟩
          rw [c2] at z2
          simp only [c_now hA (show (1, 0, 2) ∈ q_crs by decide), Option.bind_some, fI8]
          rw [if_neg (fun z => k2 ((nI_eq (by omega) (by omega)).mp z)), if_neg (fun z => k3 ((nI_eq (by omega) (by omega)).mp z))]
          simp only [gN_d, nA, z1, Option.bind_some]
          rw [if_pos (by rw [k0]; exact nI_0)]
          simp only [z2, z_rV, Option.bind_some]
          exact w1
        · obtain ⟨z1, D, z2, hD, tD, z3⟩ := obj 0 0 rfl (Or.inl rfl) kt (by omega)
          obtain ⟨M1, w1, w2, w3, w4, w5⟩ := K_cvT hD h8 (c := gN M + 1) (Or.inl tD)
          refine ⟨M1, ?_, z3 M1 w2 w3 w4 w5⟩
          rw [c2] at z2
          simp only [c_now hA (show (1, 0, 2) ∈ q_crs by decide), Option.bind_some, fI8]
          rw [if_neg (fun z => k2 ((nI_eq (by omega) (by omega)).mp z)), if_neg (fun z => k3 ((nI_eq (by omega) (by omega)).mp z))]
          simp only [gN_d, nA, z1, Option.bind_some]
          rw [if_neg (nI_ne0 (by omega) (by omega))]
          simp only [z2, z_rV, Option.bind_some]
          exact w1
  -- the three lengths
  have z0 : q_bI (q_born M 14 3) 14 (gN M) (nI 0) (nI a) = some (stI (q_born M 14 3) (gN M) 0 (nI a)) := z_bI (n := 3) tB lB (by omega) (by omega)
  have e1 : ∀ y, q_bI (stI (q_born M 14 3) (gN M) 0 (nI a)) 14 (gN M) (nI 1) y = some (stI (stI (q_born M 14 3) (gN M) 0 (nI a)) (gN M) 1 y) := fun y => z_bI (n := 3) tB lB (by omega) (by omega)
  have e2 : ∀ y x, q_bI (stI (stI (q_born M 14 3) (gN M) 0 (nI a)) (gN M) 1 y) 14 (gN M) (nI 2) x = some (stI (stI (stI (q_born M 14 3) (gN M) 0 (nI a)) (gN M) 1 y) (gN M) 2 x) := fun y x => z_bI (n := 3) tB lB (by omega) (by omega)
  have wr : ∀ y x, y = nI (crL K d a b c 1) → x = nI (crL K d a b c 2) → FC (fun a => a = gN M) (q_born M 14 3) (stI (stI (stI (q_born M 14 3) (gN M) 0 (nI a)) (gN M) 1 y) (gN M) 2 x) ∧ ∀ z, z < 3 → gI (stI (stI (stI (q_born M 14 3) (gN M) 0 (nI a)) (gN M) 1 y) (gN M) 2 x) (gN M) z = nI (crL K d a b c z) := fun y x hy hx => by
    refine ⟨(((FC.rf (fun a => a = gN M) (q_born M 14 3)).sI rfl).sI rfl).sI rfl, fun z hz => ?_⟩
    simp only [gI_stI]
    rcases (show z = 0 ∨ z = 1 ∨ z = 2 by omega) with rfl | rfl | rfl
    · rfl
    · exact hy
    · exact hx
  have key : ∀ ow y, ow = (if K = 0 ∨ K = 4 then 1 else 0) → y = nI (crL K d a b c 1) → ∃ M1, q_RL T_X11_curve (63, [some (.inr (.inr (some 1))), some (.inl (nI K)), some (.inl (nI d)), some (.inl (nI a)), some (.inl (nI b)), some (.inl (nI c)), some (.inl (nI ow)), none, none, none], [.inl y, .inl (nI 1), .inr (.inr (some (gN M))), .inr (.inr (some (gN M)))], stI (q_born M 14 3) (gN M) 0 (nI a)) = some (some (.inl (nI (v 0))), M1) ∧ FB (fun a => a = 2 ∨ a = 3) 4 80 M M1 ∧ CS M1 2 (crV v K d (crL K d a b c)) := by
    intro ow y eo ey
    rw [E_X11_curve_63]
    simp only [Option.bind_some, e1]
    rcases hd with d2 | d3
    · rw [if_neg (nI_ge (by omega) (by omega))]
      simp only [Option.bind_some, e2]
      obtain ⟨w1, w2⟩ := wr y (nI 0) ey (by unfold crL; rw [if_neg (by omega), if_neg (by omega), if_pos d2])
      exact fin _ w1 w2
    · rw [if_pos (nI_le (by omega) (by omega))]
      by_cases own : K = 0 ∨ K = 4
      · rw [if_pos own] at eo
        rw [if_neg (by rw [eo]; decide +kernel)]
        simp only [Option.bind_some, e2]
        obtain ⟨w1, w2⟩ := wr y (nI c) ey (by unfold crL; rw [if_neg (by omega), if_neg (by omega), if_neg (by omega), if_pos own])
        exact fin _ w1 w2
      · rw [if_neg own] at eo
        rw [if_pos (by rw [eo]; exact nI_0)]
        simp only [Option.bind_some, e2]
        obtain ⟨w1, w2⟩ := wr y (nI a) ey (by unfold crL; rw [if_neg (by omega), if_neg (by omega), if_neg (by omega), if_neg own])
        exact fin _ w1 w2
  have can : q_CL 86 [.inl (nI K), .inl (nI d), .inl (nI a), .inl (nI b), .inl (nI c)] M = some (some (.inl (nI 1)), M) := by
    rcases K_can (M := M) (nI K) (nI d) (nI a) (nI b) (nI c) with ⟨n, _⟩ | ⟨_, e⟩
    · exact absurd ⟨K, d, a, b, c, rfl, rfl, rfl, rfl, rfl, hg⟩ n
    · exact e
  rw [C_X11_curve]
  simp only [c_now h (show (1, 0, 2) ∈ q_crs by decide), Option.bind_some, y_fI h (show 2 < 63 by omega) (show q_isT 8 (q_tgs.getD 2 0) = true from rfl), cs.1, can, z_rI, zn, gN_d, z0]
  rw [if_neg (nI_ge h8 (by omega)), if_neg (show ¬ nI 1 = 0 by decide +kernel)]
  by_cases k0 : K = 0
  · rw [if_pos (by rw [k0]; exact nI_0), if_neg (show ¬ nI 1 = 0 by decide +kernel)]
    exact key 1 (nI b) (by rw [if_pos (Or.inl k0)]) (by unfold crL; rw [if_neg (by omega), if_pos rfl, if_pos (Or.inl k0)])
  rw [if_neg (nI_ne0 (by omega) (by omega))]
  by_cases k4 : K = 4
  · rw [if_pos (by rw [k4]), if_neg (show ¬ nI 1 = 0 by decide +kernel)]
    exact key 1 (nI b) (by rw [if_pos (Or.inr k4)]) (by unfold crL; rw [if_neg (by omega), if_pos rfl, if_pos (Or.inr k4)])
  · rw [if_neg (fun z => k4 ((nI_eq (by omega) (by omega)).mp z)), if_pos nI_0]
    exact key 0 (nI a) (by rw [if_neg (by omega)]) (by unfold crL; rw [if_neg (by omega), if_pos rfl, if_neg (by omega)])
