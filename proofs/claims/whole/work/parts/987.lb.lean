theorem CO.f1 {M : q_M} {c K d : Nat} {L : Nat → Nat} {i : Nat} (h : CO M c K d L i) : q_fI M 0 c 1 = some (nI d) := (z_fI (by rw [h.1]; exact kT_is K)).trans (congrArg some h.2.2.1)
theorem CO.rm {M : q_M} {c K d : Nat} {L : Nat → Nat} {i : Nat} (h : CO M c K d L i) : ∃ rm, q_fR M 0 c 3 = some (some rm) ∧ ∀ a, a < 3 → q_aI M 14 rm (nI a) = some (nI (cB K ^ L a)) := by
  obtain ⟨h1, h2, h3, h4, h5, h6, rm, od, r1, r2, r3, r4, _⟩ := h
  exact ⟨rm, (z_fR (by rw [h1]; exact kT_is K)).trans (congrArg some r1), fun a ha => (z_aI r2 r3 ha (by omega)).trans (congrArg some (r4 a ha))⟩
theorem K_sowL {M0 : q_M} {v : Nat → Nat} {i o r ps sz c n j : Nat} {x1 x3 : Int32} (h0 : SH M0) (ib0 : IB M0) (hi : i < 8) (hc : okI v i) (ho : 1100 ≤ o) (co : CO M0 c (cK v i) (cD v i) (cL v i) i) (rr : gN M0 = r ∧ ps = r + 1 ∧ sz = r + 2) (hn : n ≤ 40) (rn : gN M0 + 43 ≤ 600000) (rs : gS M0 + 1000 ≤ 7302250) {u : Nat → Nat} : ∀ m t, t + m = n → ∀ g V M (d9 d10 d11 d12 : Option q_V), SWI M0 M v V i o r ps sz t m → sowR o i m g V u → ∃ M1 g1 e9 e10 e11 e12, q_RL T_X11_sow (84, [some (.inr (.inr (some 1))), some (.inl x1), some (.inl (nI n)), some (.inl x3), some (.inr (.inr (some (15 + 2 * j)))), some (.inr (.inr (some r))), some (.inr (.inr (some c))), some (.inl g), some (.inl (nI t)), d9, d10, d11, d12], [], M) = q_RL T_X11_sow (84, [some (.inr (.inr (some 1))), some (.inl x1), some (.inl (nI n)), some (.inl x3), some (.inr (.inr (some (15 + 2 * j)))), some (.inr (.inr (some r))), some (.inr (.inr (some c))), some (.inl g1), some (.inl (nI n)), e9, e10, e11, e12], [], M1) ∧ SWI M0 M1 v u i o r ps sz n 0 ∧ u (o + 2) = V (o + 2) + m ∧ ∀ x, x < o + 2 ∨ o + 2110 ≤ x → u x = V x := by
  have g0 := h0.2.2.2
  intro m
  induction m with
  | zero =>
    intro t ht g V M d9 d10 d11 d12 I s
    rw [Nat.add_zero] at ht
    subst ht
    have e : u = V := s
    rw [e]
    exact ⟨M, g, d9, d10, d11, d12, rfl, I, rfl, fun _ _ => rfl⟩
  | succ m ih =>
    intro t ht g V M d9 d10 d11 d12 I s
    obtain ⟨nm, p, e, k, s1, s2, s3⟩ := s
    have I0 := I
    obtain ⟨i1, i2, i3, i4, i5, i6, i7, i8, i9, i10⟩ := I
    have h := i1.sh h0
    have e49 : ∀ x, x < 49 → V x = v x := fun x hx => i4 x (by unfold oS; omega)
    have hcV : okI V i := okI_cg e49 hi hc
    have hqV := dq_b hcV g
    have hw : dv (dg V i g) 101 ≤ 1000 := by have : dv (dg V i g) 101 < 101 := Nat.mod_lt _ (by omega); omega
    have b1 := i1.2.1
    have b2 := i1.2.2.1
    have s10 := i3.1
    have s11 := i3.2.1
    obtain ⟨B, M1, w1, w2, w3, M2, w4, w5, w6, w7⟩ := K_sow1 h0 ib0 hi hc ho co rr I0 hqV hw s1 s2 (by omega) (by omega)
    have hg := (SW_cm hi hcV i3 (by omega) (by omega) s2.1 s2.2.1 s2.2.2.1 s2.2.2.2.1 (fun z => (s2.2.2.2.2.1 z).1) hqV (by have := frN_le s1.2; omega) hw s1.1).2
    obtain ⟨v1, v2, v3, _⟩ := cmV_a (c := cP nm (dq V i g) (dv (dg V i g) 101) (npI V i (dq V i g))) (fun z => by omega) (by omega) (by omega) s2.1 hg
    obtain ⟨M3, g1, e9, e10, e11, e12, y1, y2, y3, y4⟩ := ih (t + 1) (by omega) (dg V i g) _ M1 (some (.inl (nI (dq V i g 0)))) (some (.inl (nI (dq V i g 1)))) (some (.inl (nI (dq V i g 2)))) (some (.inl (nI (dv (dg V i g) 101)))) w7 s3
    refine ⟨M3, g1, e9, e10, e11, e12, ?_, y2, by rw [y3, v1]; omega, fun x hx => (y4 x hx).trans (v3 x hx)⟩
    rw [← y1]
    have kp := i1.kp g0 (fun a _ z => swP_63 a z)
    have coV := (co.vu hi e49).kp kp
    obtain ⟨rm, r1, r2⟩ := coV.rm
    have hB := (FB.born a48 M h.2.2.2 2 6).sh h
    have hC : SH (stI (q_born M 2 6) 48 nm (nI 1)) := hB
    have rb := fun a (ha : a < 3) => room_le hcV ha
    have dr_ : ∀ x M, q_CL 99 [.inl x] M = some (some (.inl (dr x)), M) := fun x M => C_X11_drawAfter M x
    rw [E_X11_sow_84, if_neg (nI_ge (by omega) (by omega))]
    simp only [dr_, z_rI, Option.bind_some, r1, r2 0 (by omega), r2 1 (by omega), K_drawn M _ (show 0 < cB (cK V i) ^ cL V i 0 ∧ cB (cK V i) ^ cL V i 0 < 2 ^ 31 by have := rb 0 (by omega); omega), K_drawn M _ (show 0 < cB (cK V i) ^ cL V i 1 ∧ cB (cK V i) ^ cL V i 1 < 2 ^ 31 by have := rb 1 (by omega); omega), coV.f1]
    have q0 : dq V i g 0 = dv (dr g) (cB (cK V i) ^ cL V i 0) := rfl
    have q1 : dq V i g 1 = dv (dr (dr g)) (cB (cK V i) ^ cL V i 1) := rfl
    by_cases d3 : cD V i = 3
    · have q2 : dq V i g 2 = dv (dr (dr (dr g))) (cB (cK V i) ^ cL V i 2) := by
        unfold dq; rw [if_neg (by omega), if_neg (by omega), if_pos d3]
      have gg : dg V i g = dr (dr (dr (dr g))) := by unfold dg; rw [if_pos d3]
      rw [q0, q1, q2] at w3 w4
      rw [gg] at w4
      rw [d3, if_pos rfl]
      simp only [r1, r2 2 (by omega), Option.bind_some, K_drawn M _ (show 0 < cB (cK V i) ^ cL V i 2 ∧ cB (cK V i) ^ cL V i 2 < 2 ^ 31 by have := rb 2 (by omega); omega), z_rI, K_drawn M _ (show 0 < 101 ∧ 101 < 2 ^ 31 by omega), w1, c_sel hB, w2, c_now hC (show (1, 4, 25) ∈ q_crs by decide), w_sel hC, w3, z_rL, gN_d, w4, z_rV, z_sel w5, w6, nI_1, q0, q1, q2, gg]
    · have d2 : cD V i = 2 := by rcases hcV.1.2.1 with z | z; exact z; exact absurd z d3
      have q2 : dq V i g 2 = 0 := by
        unfold dq; rw [if_neg (by omega), if_neg (by omega), if_neg d3]
      have gg : dg V i g = dr (dr (dr g)) := by unfold dg; rw [if_neg d3]
      rw [q0, q1, q2] at w3 w4
      rw [gg] at w4
      rw [d2, if_neg (show ¬ nI 2 = nI 3 by decide +kernel)]
      simp only [Option.bind_some, z_rI, K_drawn M _ (show 0 < 101 ∧ 101 < 2 ^ 31 by omega), w1, c_sel hB, w2, c_now hC (show (1, 4, 25) ∈ q_crs by decide), w_sel hC, w3, z_rL, gN_d, w4, z_rV, z_sel w5, w6, nI_1, q0, q1, q2, gg]
theorem K_sow_no {v : Nat → Nat} (sv : SV v) {M : q_M} (h : SH M) (hs : HS M 2 v) {x1 x2 x3 : Int32} (n : ¬ (∃ j, j < 4 ∧ x1 = nI j ∧ v (oS j) = 1)) : q_CL 92 [.inr (.inr (some 1)), .inl x1, .inl x2, .inl x3] M = some (some (.inl (-1)), M) := by
  rw [C_X11_sow]
  simp only [c_sel h, Option.bind_some, K_sA_no sv h hs n, z_rR]
  rw [if_pos trivial]
theorem K_sow2 {v : Nat → Nat} {M : q_M} (h : SH M) (hs : HS M 2 v) {j : Nat} (hj : j < 4) (e : v (oS j) = 1) {x2 x3 : Int32} (n : ¬ (∃ n, 1 ≤ n ∧ n ≤ 40 ∧ x2 = nI n)) : q_CL 92 [.inr (.inr (some 1)), .inl (nI j), .inl x2, .inl x3] M = some (some (.inl (-2)), M) := by
  rw [C_X11_sow]
  simp only [c_sel h, Option.bind_some, K_sA h hs hj e, z_rR]
  rw [if_neg (by simp)]
  by_cases c0 : x2 < nI 1
  · rw [if_pos c0]
  rw [if_neg c0]
  have c1 : ¬ x2 < 0 := fun z => c0 (by
    have a := Int32.lt_iff_toInt_lt.mp z
    rw [show (0 : Int32) = nI 0 from nI_0.symm, nI_toInt (by omega)] at a
    apply Int32.lt_iff_toInt_lt.mpr
    rw [nI_toInt (by omega)]
    omega)
  obtain ⟨k, hk, rfl⟩ := nI_of c1
  by_cases c2 : k ≤ 40
  · exact absurd ⟨k, Nat.pos_of_ne_zero (fun z => c0 (by rw [z]; exact nI_lt (by omega) (by omega))), c2, rfl⟩ n
  · rw [if_neg (nI_ge (by omega) hk)]
theorem K_sow6 {v : Nat → Nat} (sv : SV v) {M : q_M} (h : SH M) (hs : HS M 2 v) {j : Nat} (hj : j < 4) (e : v (oS j) = 1) {n : Nat} {x3 : Int32} (n1 : 1 ≤ n) (n2 : n ≤ 40) (f : 300 < v (oS j + 2) + n) : q_CL 92 [.inr (.inr (some 1)), .inl (nI j), .inl (nI n), .inl x3] M = some (some (.inl (-6)), M) := by
  obtain ⟨c, r, ps, sz, o1, o2, o3, o4, o5, _⟩ := HS.op h hs hj e
  have sw1 := (sv.sw hj e).1
  rw [C_X11_sow]
  simp only [c_sel h, Option.bind_some, K_sA h hs hj e, z_rR]
  rw [if_neg (by simp), if_neg (nI_nlt n1 (by omega)), if_pos (nI_le n2 (by omega))]
  simp only [o4, Option.bind_some, o5.f2, nI_add]
  rw [if_neg (nI_ge f (by omega))]
def soP (j a : Nat) : Prop := swP a ∨ sh2 j a
theorem K_sow {v u : Nat → Nat} (sv : SV v) {M : q_M} (h : SH M) (ib : IB M) (hs : HS M 2 v) (wz : WZ M) {j : Nat} (hj : j < 4) (e : v (oS j) = 1) {n : Nat} {x3 : Int32} (n1 : 1 ≤ n) (n2 : n ≤ 40) (f : v (oS j + 2) + n ≤ 300) (sr : sowR (oS j) (v (oS j + 1)) n x3 (kpU v j) u) (rn : gN M + 43 ≤ 600000) (rs : gS M + 1000 ≤ 7302250) : ∃ M1, q_CL 92 [.inr (.inr (some 1)), .inl (nI j), .inl (nI n), .inl x3] M = some (some (.inl (nI (v (oS j + 2) + n))), M1) ∧ FB (soP j) 43 924 M M1 ∧ WZ M1 ∧ HS M1 2 u := by
  have gg := h.2.2.2
  obtain ⟨c, r, ps, sz, o1, o2, o3, o4, o5, st1, st2, st3⟩ := HS.op h hs hj e
  obtain ⟨i8, hc⟩ := sv.i8 hj e
  have sw := sv.sw hj e
  have sw1 := sw.1
  have ob := oS_b hj
  obtain ⟨svU, swU, e1U, e0U⟩ := SV_kpU hj sv e
  obtain ⟨k1, k2, k3, k4, k5, k6⟩ := kpU_a (v := v) hj
  have oU : RWx M r ps sz (kpU v j) (oS j) := o5.cg sw.1 (Nat.le_trans sw.2.1 sw.1) k2
  have m2 := k2 2 (by omega)
  obtain ⟨r0, M1, r1, r2, r3, r4, r5, r6⟩ := K_rowN (c := n) h ib oU st1 st2 st3 swU.1 (Nat.le_trans swU.2.1 swU.1) n2 (by omega) (by omega)
  have h1 := r2.sh h
  obtain ⟨M2, t1, t2, t3⟩ := K_mark h1 r4 swU.1 (fun p hp => (swU.2.2.2.2.1 p hp).1) ⟨by omega, by omega, by omega⟩
  have h2 := t2.sh h1
  have f12 : FB swP (3 + 6 * 0) (684 + 6 * 0) M M2 := (r2.wk (fun _ _ z => z.elim) (Nat.le_refl _) (Nat.le_refl _) : FB swP 3 684 M M1).tr t2.fb (fun _ _ z => Or.inl z)
  have wz1 : WZ M1 := ⟨((r2.2.2.2.2.1 34 0 (by omega) (fun z => z)).1).trans wz.1, ((r2.2.2.2.2.1 35 0 (by omega) (fun z => z)).2.1).trans wz.2⟩
  have wz2 : WZ M2 := WZ.fc t2 ⟨by unfold a48; omega, by unfold a48; omega⟩ wz1
  have n2' : gN M2 = gN M + 3 := by rw [t2.gn]; exact r3
  have stn : ∀ a, gN M ≤ a → a < gN M + 3 → ST M1 a := fun a x y => ST_new r2 gg (fun z => z) ib x (by omega)
  have w2 : RWx M2 (gN M) (gN M + 1) (gN M + 2) (kpU v j) (oS j) := r4.kp (stn _ (by omega) (by omega)) (stn _ (by omega) (by omega)) (stn _ (by omega) (by omega)) (t2.kp (fun a z => by unfold a48 at z; omega))
  have I : SWI M M2 v (kpU v j) (v (oS j + 1)) (oS j) (gN M) (gN M + 1) (gN M + 2) 0 n := ⟨f12.wk (fun _ _ z => z) (by omega) (by omega), wz2, swU, fun x hx => k1 x (by unfold oS at hx; omega), w2, t3, by rw [t2.2.1, r5]; omega, by rw [t2.2.1, r6]; omega, by rw [m2]; exact f, by omega⟩
  obtain ⟨M3, g1, e9, e10, e11, e12, y1, y2, y3, y4⟩ := K_sowL (x1 := nI j) (x3 := x3) (j := j) h ib i8 hc (show 1100 ≤ oS j by omega) o3 ⟨rfl, rfl, rfl⟩ n2 rn rs n 0 (by omega) x3 (kpU v j) M2 none none none none I sr
  obtain ⟨z1, z2, z3, z4, z5, z6, z7, z8, z9, z10⟩ := y2
  have h3 := z1.sh h
  have hs3 := HS.kp2 z1 gg swP_63 (fun a _ _ z => by unfold swP a48 wsc at z; omega) hs
  have st3 : ∀ a, gN M ≤ a → a < gN M + 3 → ST M3 a := fun a x y => ST_new z1 gg (by unfold swP a48 wsc; omega) ib x (by omega)
  have rw3 : RW M3 (gN M) u (oS j) := ⟨gN M + 1, gN M + 2, z5, st3 _ (by omega) (by omega), st3 _ (by omega) (by omega), st3 _ (by omega) (by omega)⟩
  obtain ⟨M4, a1, a2, a3⟩ := K_act sv h3 hs3 hj e rw3 (acT_of hj e y4)
  refine ⟨M4, ?_, ?_, WZ.fc a2 ⟨by unfold sh2; omega, by unfold sh2; omega⟩ z2, a3⟩
  · rw [C_X11_sow]
    simp only [c_sel h, Option.bind_some, K_sA h hs hj e, z_rR]
    rw [if_neg (by simp), if_neg (nI_nlt n1 (by omega)), if_pos (nI_le n2 (by omega))]
    simp only [o4, Option.bind_some, o5.f2, nI_add]
    rw [if_pos (nI_le f (by omega))]
    have bR : q_fR (q_born M 3 4) 5 (15 + 2 * j) 1 = some (some r) := by
      have t := (h_t h hj).1
      rw [z_fR (by rw [t_bornx (by omega), t]; rfl), gR_bornx (by omega)]
      rw [z_fR (h_is h hj)] at o4
      exact o4
    have bC : q_fR M2 5 (15 + 2 * j) 0 = some (some c) := by
      rw [z_fR (h_is h2 hj), (f12.2.2.2.2.1 _ _ (by omega) (by unfold swP a48 wsc; omega)).2.2]
      rw [z_fR (h_is h hj)] at o2
      exact o2
    have fin : q_fI M4 3 (gN M) 2 = some (nI (v (oS j + 2) + n)) := by
      rw [z_fI (by rw [a2.1, z5.1]; rfl), (a2.2.2.2.1 (gN M) 2 (by unfold sh2; omega)).1]
      have := z5.2.2.2.2.2.2.2.2.2.1
      rw [this, y3, m2]
    simp only [r0, Option.bind_some, bR, gN_d, r1, z_rV, c_now h1 (show (1, 8, 48) ∈ q_crs by decide), z_sel r4.1, t1, bC]
    rw [y1, E_X11_sow_84, if_pos (nI_le (Nat.le_refl _) (by omega))]
    simp only [Option.bind_some, z_sel (h_t h3 hj).1, a1, z_rV, fin]
  · exact ((z1.wk (fun _ _ z => Or.inl z) (Nat.le_refl _) (Nat.le_refl _) : FB (soP j) (3 + n) (684 + 6 * n) M M3).tr a2.fb (fun _ _ z => Or.inr z)).wk (fun _ _ z => z) (by omega) (by omega)
