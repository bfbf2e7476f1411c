/-! ===== THE CLASS: drop ===== -/
theorem nm_none {v : Nat → Nat} {o : Nat} {x : Int32} (n : ¬ ∃ p, nmAt v o x p) : ∀ p, p < v (o + 2) → x ≠ nI (v (o + 4 + 6 * p)) := fun p hp e => by
  obtain ⟨k, ⟨k1, k2⟩, k3⟩ := pk_least (fun p => p < v (o + 2) ∧ x = nI (v (o + 4 + 6 * p))) ⟨p, hp, e⟩
  exact n ⟨k, k1, k2, fun q hq z => k3 q hq ⟨by omega, z⟩⟩
theorem K_drop_no {v : Nat → Nat} (sv : SV v) {M : q_M} (h : SH M) (hs : HS M 2 v) {x1 x2 : Int32} (n : ¬ (∃ j p, j < 4 ∧ x1 = nI j ∧ v (oS j) = 1 ∧ nmAt v (oS j) x2 p)) : q_CL 90 [.inr (.inr (some 1)), .inl x1, .inl x2] M = some (some (.inl (-1)), M) := by
  rw [C_X11_drop]
  by_cases c : ∃ j, j < 4 ∧ x1 = nI j ∧ v (oS j) = 1
  · obtain ⟨j, hj, rfl, e⟩ := c
    obtain ⟨c, r, ps, sz, o1, o2, o3, o4, o5, _⟩ := HS.op h hs hj e
    have ki := (K_idx o5 (sv.sw hj e).1 x2).1 (nm_none (fun ⟨p, hp⟩ => n ⟨j, p, hj, rfl, e, hp⟩))
    simp only [c_sel h, Option.bind_some, K_sA h hs hj e, z_rR]
    rw [if_neg (by simp)]
    simp only [o4, Option.bind_some, o5.sel, ki, z_rI]
    rw [if_neg (by decide)]
  · simp only [c_sel h, Option.bind_some, K_sA_no sv h hs c, z_rR]
    rw [if_pos trivial, if_neg (by decide)]
theorem K_drop {v : Nat → Nat} (sv : SV v) {M : q_M} (h : SH M) (ib : IB M) (hs : HS M 2 v) (wz : WZ M) {j : Nat} (hj : j < 4) (e : v (oS j) = 1) {x2 : Int32} {p g : Nat} (na : nmAt v (oS j) x2 p) (pa : pgAt (kpU v j) (oS j) p g) (rn : gN M + 4 ≤ 600000) (rs : gS M + 690 ≤ 7302250) : ∃ M1, q_CL 90 [.inr (.inr (some 1)), .inl (nI j), .inl x2] M = some (some (.inl (nI (v (oS j + 2) - 1))), M1) ∧ FB (acP j) 4 690 M M1 ∧ WZ M1 ∧ HS M1 2 (gsV (kpU v j) (oS j) p g) := by
  have gg := h.2.2.2
  obtain ⟨c, r, ps, sz, o1, o2, o3, o4, o5, st1, st2, st3⟩ := HS.op h hs hj e
  obtain ⟨i8, hc⟩ := sv.i8 hj e
  have sw := sv.sw hj e
  have sw1 := sw.1
  have ob := oS_b hj
  have na1 := na.1
  have ki := (K_idx o5 sw.1 x2).2 p na
  obtain ⟨svU, swU, e1U, e0U⟩ := SV_kpU hj sv e
  obtain ⟨k1, k2, k3, k4, k5, k6⟩ := kpU_a (v := v) hj
  have oU : RWx M r ps sz (kpU v j) (oS j) := o5.cg sw.1 (Nat.le_trans sw.2.1 sw.1) k2
  have m2 := k2 2 (by omega)
  obtain ⟨r0, M1, r1, r2, r3, r4, r5, r6⟩ := K_rowN (c := 0) h ib oU st1 st2 st3 swU.1 (Nat.le_trans swU.2.1 swU.1) (by omega) (by omega) (by omega)
  have h1 := r2.sh h
  have wz1 : WZ M1 := ⟨((r2.2.2.2.2.1 34 0 (by omega) (fun z => z)).1).trans wz.1, ((r2.2.2.2.2.1 35 0 (by omega) (fun z => z)).2.1).trans wz.2⟩
  obtain ⟨M2, q1, q2, q3⟩ := K_go swU (by rw [m2]; exact na1) pa h1 r4 ⟨by omega, by omega, by omega⟩
  have f12 : FB (fun _ => False) (3 + 0) (684 + 0) M M2 := r2.tr q2.fb (fun x hx z => by rcases z with z | z | z <;> omega)
  have h2 := f12.sh h
  have hs2 := HS.kp2 f12 gg (fun _ z => z.elim) (fun _ _ _ z => z) hs
  have n2 : gN M2 = gN M + 3 := by rw [q2.gn]; omega
  have stn : ∀ a, gN M ≤ a → a < gN M + 3 → ST M2 a := fun a x y => ST_new f12 gg (fun z => z) ib x (by omega)
  have rw2 : RW M2 (gN M) (gsV (kpU v j) (oS j) p g) (oS j) := ⟨gN M + 1, gN M + 2, q3, stn _ (by omega) (by omega), stn _ (by omega) (by omega), stn _ (by omega) (by omega)⟩
  have gv := gsV_a (p := p) (g := g) swU.1 (Nat.le_trans swU.2.1 swU.1) (by rw [m2]; exact na1) pa.1
  obtain ⟨M3, a1, a2, a3⟩ := K_act sv h2 hs2 hj e rw2 (acT_of hj e gv.2.2.1)
  have wz2 : WZ M2 := WZ.fc q2 ⟨fun z => by rcases z with z | z | z <;> omega, fun z => by rcases z with z | z | z <;> omega⟩ wz1
  refine ⟨M3, ?_, ?_, WZ.fc a2 ⟨by unfold sh2; omega, by unfold sh2; omega⟩ wz2, a3⟩
  · rw [C_X11_drop]
    simp only [c_sel h, Option.bind_some, K_sA h hs hj e, z_rR]
    rw [if_neg (by simp)]
    simp only [o4, Option.bind_some, o5.sel, ki, z_rI]
    rw [if_pos (nI_pos' (by omega))]
    have bR : q_fR (q_born M 3 4) 5 (15 + 2 * j) 1 = some (some r) := by
      have t := (h_t h hj).1
      rw [z_fR (by rw [t_bornx (by omega), t]; rfl), gR_bornx (by omega)]
      rw [z_fR (h_is h hj)] at o4
      exact o4
    have fin : q_fI M3 3 (gN M) 2 = some (nI (v (oS j + 2) - 1)) := by
      rw [z_fI (by rw [a2.1, q3.1]; rfl), (a2.2.2.2.1 (gN M) 2 (by unfold sh2; omega)).1]
      have := q3.2.2.2.2.2.2.2.2.2.1
      rw [this, gv.1, m2]
    simp only [r0, Option.bind_some, bR, gN_d, r1, z_rV, z_sel r4.1, q1, z_sel (h_t h2 hj).1, a1, fin]
  · exact ((f12.wk (fun _ _ z => z.elim) (Nat.le_refl _) (Nat.le_refl _) : FB (acP j) (3 + 0) (684 + 0) M M2).tr a2.fb (fun _ _ z => Or.inr z)).wk (fun _ _ z => z) (by omega) (by omega)
/-! move -/
theorem K_move_no {v : Nat → Nat} (sv : SV v) {M : q_M} (h : SH M) (hs : HS M 2 v) {x1 x2 x3 x4 x5 : Int32} (n : ¬ (∃ j p, j < 4 ∧ x1 = nI j ∧ v (oS j) = 1 ∧ nmAt v (oS j) x2 p)) : q_CL 91 [.inr (.inr (some 1)), .inl x1, .inl x2, .inl x3, .inl x4, .inl x5] M = some (some (.inl (-1)), M) := by
  rw [C_X11_move]
  by_cases c : ∃ j, j < 4 ∧ x1 = nI j ∧ v (oS j) = 1
  · obtain ⟨j, hj, rfl, e⟩ := c
    obtain ⟨c, r, ps, sz, o1, o2, o3, o4, o5, _⟩ := HS.op h hs hj e
    have ki := (K_idx o5 (sv.sw hj e).1 x2).1 (nm_none (fun ⟨p, hp⟩ => n ⟨j, p, hj, rfl, e, hp⟩))
    simp only [c_sel h, Option.bind_some, K_sA h hs hj e, z_rR]
    rw [if_neg (by simp)]
    simp only [o4, Option.bind_some, o5.sel, ki, z_rI]
    rw [if_neg (by decide)]
  · simp only [c_sel h, Option.bind_some, K_sA_no sv h hs c, z_rR]
    rw [if_pos trivial, if_neg (by decide)]
theorem K_move2 {v : Nat → Nat} (sv : SV v) {M : q_M} (h : SH M) (hs : HS M 2 v) {j : Nat} (hj : j < 4) (e : v (oS j) = 1) {x2 x3 x4 x5 : Int32} {p : Nat} (na : nmAt v (oS j) x2 p) (n : ¬ isP v (v (oS j + 1)) x3 x4 x5) : q_CL 91 [.inr (.inr (some 1)), .inl (nI j), .inl x2, .inl x3, .inl x4, .inl x5] M = some (some (.inl (-2)), M) := by
  obtain ⟨c, r, ps, sz, o1, o2, o3, o4, o5, _⟩ := HS.op h hs hj e
  have hc := (sv.i8 hj e).2
  have sw1 := (sv.sw hj e).1
  have na1 := na.1
  have ki := (K_idx o5 (sv.sw hj e).1 x2).2 p na
  rw [C_X11_move]
  simp only [c_sel h, Option.bind_some, K_sA h hs hj e, z_rR]
  rw [if_neg (by simp)]
  simp only [o4, Option.bind_some, o5.sel, ki, z_rI]
  rw [if_pos (nI_pos' (by omega))]
  simp only [o2, Option.bind_some, o3.s4]
  rcases K_holds o3 (fun a ha => by have := room_le hc ha; omega) x3 x4 x5 with ⟨_, e1⟩ | ⟨⟨q, q1, q2, q3, q4⟩, _⟩
  · rw [e1]
    simp only [z_rI, Option.bind_some]
    rw [if_pos nI_0]
  · exact absurd ⟨q, q1, q2, q3, q4⟩ n
theorem K_move {v : Nat → Nat} (sv : SV v) {M : q_M} (h : SH M) (ib : IB M) (hs : HS M 2 v) (wz : WZ M) {j : Nat} (hj : j < 4) (e : v (oS j) = 1) {x2 : Int32} {p g p2 g2 k : Nat} {q : Nat → Nat} (na : nmAt v (oS j) x2 p) (hq : ∀ a, a < 3 → q a < cB (cK v (v (oS j + 1))) ^ cL v (v (oS j + 1)) a) (pa : pgAt (kpU v j) (oS j) p g) (ca : cmAt (gsV (kpU v j) (oS j) p g) (v (oS j + 1)) (oS j) (v (oS j + 4 + 6 * p)) q (v (oS j + 4 + 6 * p + 4)) p2 g2 k) (rn : gN M + 4 ≤ 600000) (rs : gS M + 690 ≤ 7302250) : ∃ M1, q_CL 91 [.inr (.inr (some 1)), .inl (nI j), .inl x2, .inl (nI (q 0)), .inl (nI (q 1)), .inl (nI (q 2))] M = some (some (.inl (nI k)), M1) ∧ FB (acP j) 4 690 M M1 ∧ WZ M1 ∧ HS M1 2 (cmV (gsV (kpU v j) (oS j) p g) (oS j) p2 g2 (cP (v (oS j + 4 + 6 * p)) q (v (oS j + 4 + 6 * p + 4)) (npI (gsV (kpU v j) (oS j) p g) (v (oS j + 1)) q))) := by
  have gg := h.2.2.2
  obtain ⟨c, r, ps, sz, o1, o2, o3, o4, o5, st1, st2, st3⟩ := HS.op h hs hj e
  obtain ⟨i8, hc⟩ := sv.i8 hj e
  have sw := sv.sw hj e
  have sw1 := sw.1
  have ob := oS_b hj
  have na1 := na.1
  have ki := (K_idx o5 sw.1 x2).2 p na
  obtain ⟨svU, swU, e1U, e0U⟩ := SV_kpU hj sv e
  obtain ⟨k1, k2, k3, k4, k5, k6⟩ := kpU_a (v := v) hj
  have kc : ∀ x, x < 49 → kpU v j x = v x := fun x hx => k1 x (by omega)
  have oU : RWx M r ps sz (kpU v j) (oS j) := o5.cg sw.1 (Nat.le_trans sw.2.1 sw.1) k2
  have m2 := k2 2 (by omega)
  have hcU : okI (kpU v j) (v (oS j + 1)) := okI_cg kc i8 hc
  have gv := gsV_a (p := p) (g := g) swU.1 (Nat.le_trans swU.2.1 swU.1) (by rw [m2]; exact na1) pa.1
  have swG : SW (gsV (kpU v j) (oS j) p g) (v (oS j + 1)) (oS j) := SW_gs i8 hcU swU (by omega) (by rw [m2]; exact na1) pa.1
  have gc : ∀ x, x < 49 → gsV (kpU v j) (oS j) p g x = v x := fun x hx => (gv.2.2.1 x (by omega)).trans (kc x hx)
  have hcG : okI (gsV (kpU v j) (oS j) p g) (v (oS j + 1)) := okI_cg gc i8 hc
  obtain ⟨cx1, cx2, cx3, cx4⟩ := cX_cg gc i8
  have hqG : ∀ a, a < 3 → q a < cB (cK (gsV (kpU v j) (oS j) p g) (v (oS j + 1))) ^ cL (gsV (kpU v j) (oS j) p g) (v (oS j + 1)) a := fun a ha => by rw [cx1, cx3 a ha]; exact hq a ha
  have gm : gsV (kpU v j) (oS j) p g (oS j + 2) = v (oS j + 2) - 1 := gv.1.trans (by rw [m2])
  have pb := sw.2.2.2.2.1 p na1
  have nmP : x2 = nI (v (oS j + 4 + 6 * p)) := na.2.1
  have frG : ∀ y, y < gsV (kpU v j) (oS j) p g (oS j + 2) → gsV (kpU v j) (oS j) p g (oS j + 4 + 6 * y) ≠ v (oS j + 4 + 6 * p) := fun y hy => by
    rw [gm] at hy
    have ey := gv.2.2.2.1 y 0 (by rw [m2]; exact hy) (by omega)
    simp only [Nat.add_zero] at ey
    rw [ey]
    have kk : ∀ z, z < v (oS j + 2) → kpU v j (oS j + 4 + 6 * z) = v (oS j + 4 + 6 * z) := fun z hz => by
      have := k2 (4 + 6 * z) (by omega)
      rw [← Nat.add_assoc] at this
      exact this
    by_cases c : y < p
    · rw [if_pos c, kk y (by omega)]
      exact (sw.2.2.2.2.2 y p c na1).1
    · rw [if_neg c, kk (y + 1) (by omega)]
      exact fun z => (sw.2.2.2.2.2 p (y + 1) (by omega) (by omega)).1 z.symm
  obtain ⟨r0, M1, r1, r2, r3, r4, r5, r6⟩ := K_rowN (c := 1) h ib oU st1 st2 st3 swU.1 (Nat.le_trans swU.2.1 swU.1) (by omega) (by omega) (by omega)
  have h1 := r2.sh h
  have wz1 : WZ M1 := ⟨((r2.2.2.2.2.1 34 0 (by omega) (fun z => z)).1).trans wz.1, ((r2.2.2.2.2.1 35 0 (by omega) (fun z => z)).2.1).trans wz.2⟩
  obtain ⟨M2, q1, q2, q3⟩ := K_go swU (by rw [m2]; exact na1) pa h1 r4 ⟨by omega, by omega, by omega⟩
  have f12 : FB (fun _ => False) (3 + 0) (684 + 0) M M2 := r2.tr q2.fb (fun x hx z => by rcases z with z | z | z <;> omega)
  have h2 := f12.sh h
  have ib2 := f12.ib gg (fun z => z) ib
  have n2 : gN M2 = gN M + 3 := by rw [q2.gn]; omega
  have stn : ∀ a, gN M ≤ a → a < gN M + 3 → ST M2 a := fun a x y => ST_new f12 gg (fun z => z) ib x (by omega)
  have wz2 : WZ M2 := WZ.fc q2 ⟨fun z => by rcases z with z | z | z <;> omega, fun z => by rcases z with z | z | z <;> omega⟩ wz1
  have co2 := (o3.vu i8 gc).kp (f12.kp gg (fun _ _ z => z.elim))
  have gs2 := f12.2.2.1
  obtain ⟨p0, B, M3, p1, p3_, p3, p4, p5, p6⟩ := K_ptN (nm := v (oS j + 4 + 6 * p)) (wt := v (oS j + 4 + 6 * p + 4)) hcG h2 ib2 co2 wz2 hqG (by omega) (by omega)
  have h3 := p3.sh h2
  have kp3 := p3.kp (by omega) (fun a _ z => wsc_63 a z)
  have d3 := q3.kp (stn _ (by omega) (by omega)) (stn _ (by omega) (by omega)) (stn _ (by omega) (by omega)) kp3
  have gm3 : gsV (kpU v j) (oS j) p g (oS j + 3) ≤ kpU v j (oS j + 3) := by rw [gv.2.1]; unfold gsP; split <;> omega
  have l1 : gsV (kpU v j) (oS j) p g (oS j + 2) < M3.2.1 (gN M + 1) := by rw [(p3.2.2.2.1 (gN M + 1) (by omega)).2, q2.2.1, r5, gm, m2]; omega
  have l2 : gsV (kpU v j) (oS j) p g (oS j + 3) < M3.2.1 (gN M + 2) := by rw [(p3.2.2.2.1 (gN M + 2) (by omega)).2, q2.2.1, r6]; omega
  have hN : npI (gsV (kpU v j) (oS j) p g) (v (oS j + 1)) q < 2 ^ 62 := by
    have := npI_lt hcG hqG
    have := cS_62 hcG
    omega
  obtain ⟨M4, t1, t2, t3⟩ := K_come i8 hcG swG (by omega) (by rw [gm]; omega) ca hqG pb.1 pb.2.1 frG hN (SW_62 hcG swG) h3 d3 ⟨by omega, by omega, by omega⟩ l1 l2 p6
  have f13 : FB wsc (3 + 0 + 1) (684 + 0 + 6) M M3 := (f12.wk (fun _ _ z => z.elim) (Nat.le_refl _) (Nat.le_refl _) : FB wsc (3 + 0) (684 + 0) M M2).tr p3 (fun _ _ z => z)
  have f14 : FB wsc (3 + 0 + 1 + 0) (684 + 0 + 6 + 0) M M4 := f13.tr t2.fb (fun x hx z => by rcases z with z | z | z <;> omega)
  have h4 := f14.sh h
  have hs4 := HS.kp2 f14 gg wsc_63 (fun a _ _ z => by unfold wsc at z; omega) hs
  have n4 : gN M4 = gN M + 4 := by rw [t2.gn]; omega
  have st4 : ∀ a, gN M ≤ a → a < gN M + 3 → ST M4 a := fun a x y => ST_new f14 gg (by unfold wsc; omega) ib x (by omega)
  have rw4 : RW M4 (gN M) (cmV (gsV (kpU v j) (oS j) p g) (oS j) p2 g2 (cP (v (oS j + 4 + 6 * p)) q (v (oS j + 4 + 6 * p + 4)) (npI (gsV (kpU v j) (oS j) p g) (v (oS j + 1)) q))) (oS j) := ⟨gN M + 1, gN M + 2, t3, st4 _ (by omega) (by omega), st4 _ (by omega) (by omega), st4 _ (by omega) (by omega)⟩
  have swm := (SW_cm i8 hcG swG (by omega) (by rw [gm]; omega) ca.1 ca.2.1 ca.2.2.1 ca.2.2.2.1 (fun z => (ca.2.2.2.2.1 z).1) hqG pb.1 pb.2.1 frG).2
  have va := (cmV_a (c := cP (v (oS j + 4 + 6 * p)) q (v (oS j + 4 + 6 * p + 4)) (npI (gsV (kpU v j) (oS j) p g) (v (oS j + 1)) q)) (fun z => by have := swG.2.1; omega) (by rw [gm]; omega) (by have := swG.2.1; rw [gm] at this; omega) ca.1 swm).2.2.1
  obtain ⟨M5, a1, a2, a3⟩ := K_act sv h4 hs4 hj e rw4 (acT_of hj e (fun x hx => (va x hx).trans (gv.2.2.1 x hx)))
  have wz4 : WZ M4 := WZ.fc t2 ⟨fun z => by rcases z with z | z | z <;> omega, fun z => by rcases z with z | z | z <;> omega⟩ p5
  refine ⟨M5, ?_, ?_, WZ.fc a2 ⟨by unfold sh2; omega, by unfold sh2; omega⟩ wz4, a3⟩
  · rw [C_X11_move]
    simp only [c_sel h, Option.bind_some, K_sA h hs hj e, z_rR]
    rw [if_neg (by simp)]
    simp only [o4, Option.bind_some, o5.sel, ki, z_rI]
    rw [if_pos (nI_pos' (by omega))]
    simp only [o2, Option.bind_some, o3.s4]
    rcases K_holds o3 (fun a ha => by have := room_le hc ha; omega) (nI (q 0)) (nI (q 1)) (nI (q 2)) with ⟨e1, _⟩ | ⟨_, e1⟩
    · exact absurd ⟨q, hq, rfl, rfl, rfl⟩ e1
    rw [e1]
    simp only [z_rI, Option.bind_some]
    rw [if_neg (show ¬ nI 1 = 0 by decide +kernel)]
    obtain ⟨d, d1, d2⟩ := o5.pt na1
    have d5 := d2.f.2.2.2.2.2
    have bR : q_fR (q_born M 3 4) 5 (15 + 2 * j) 1 = some (some r) := by
      have t := (h_t h hj).1
      rw [z_fR (by rw [t_bornx (by omega), t]; rfl), gR_bornx (by omega)]
      rw [z_fR (h_is h hj)] at o4
      exact o4
    have bC : q_fR (q_born M2 2 6) 5 (15 + 2 * j) 0 = some (some c) := by
      have t := (h_t h2 hj).1
      rw [z_fR (by rw [t_bornx (by omega), t]; rfl), gR_bornx (by omega), (f12.2.2.2.2.1 _ _ (by omega) (fun z => z)).2.2]
      rw [z_fR (h_is h hj)] at o2
      exact o2
    have hB := (FB.born (fun _ => False) M2 (by omega) 2 6).sh h2
    simp only [o4, Option.bind_some, o5.f0, d1, d5, r0, bR, gN_d, r1, z_rV, z_sel r4.1, q1, p0, c_now hB (show (1, 4, 25) ∈ q_crs by decide), bC, w_sel hB, p1, z_rL, nmP, p3_, z_sel d3.1, t1, z_rI, z_sel (h_t h4 hj).1, a1]
  · exact ((f14.wk (fun _ _ z => Or.inl z) (Nat.le_refl _) (Nat.le_refl _) : FB (acP j) (3 + 0 + 1 + 0) (684 + 0 + 6 + 0) M M4).tr a2.fb (fun _ _ z => Or.inr z)).wk (fun _ _ z => z) (by omega) (by omega)
