/-! ===== THE CLASS: put, drop, move ===== -/
def acP (j a : Nat) : Prop := wsc a ∨ sh2 j a
theorem acP_63 {j : Nat} (hj : j < 4) : ∀ a, acP j a → a < 63 ∧ a ≠ 23 := fun a z => by unfold acP wsc sh2 at z; omega
theorem wsc_63 : ∀ a, wsc a → a < 63 ∧ a ≠ 23 := fun a z => by unfold wsc at z; omega
theorem K_put_no {v : Nat → Nat} (sv : SV v) {M : q_M} (h : SH M) (hs : HS M 2 v) {x1 x2 x3 x4 x5 x6 : Int32} (n : ¬ (∃ j, j < 4 ∧ x1 = nI j ∧ v (oS j) = 1)) : q_CL 89 [.inr (.inr (some 1)), .inl x1, .inl x2, .inl x3, .inl x4, .inl x5, .inl x6] M = some (some (.inl (-1)), M) := by
  rw [C_X11_put]
  simp only [c_sel h, Option.bind_some, K_sA_no sv h hs n, z_rR]
  rw [if_pos trivial]
theorem K_put2 {v : Nat → Nat} (sv : SV v) {M : q_M} (h : SH M) (hs : HS M 2 v) {j : Nat} (hj : j < 4) (e : v (oS j) = 1) {x2 x3 x4 x5 x6 : Int32} (n : ¬ ptOk v (v (oS j + 1)) x2 x3 x4 x5 x6) : q_CL 89 [.inr (.inr (some 1)), .inl (nI j), .inl x2, .inl x3, .inl x4, .inl x5, .inl x6] M = some (some (.inl (-2)), M) := by
  obtain ⟨c, r, ps, sz, o1, o2, o3, o4, o5, _⟩ := HS.op h hs hj e
  have hc := (sv.i8 hj e).2
  rw [C_X11_put]
  simp only [c_sel h, Option.bind_some, K_sA h hs hj e, z_rR]
  rw [if_neg (by simp)]
  by_cases c0 : x2 < 0
  · rw [if_pos c0]
  rw [if_neg c0]
  obtain ⟨nm, hnm, rfl⟩ := nI_of c0
  by_cases c1 : nm ≤ 9999
  rotate_left
  · rw [if_pos (nI_lt (by omega) hnm)]
  rw [if_neg (nI_nlt c1 (by omega))]
  by_cases c2 : x6 < 0
  · rw [if_pos c2]
  rw [if_neg c2]
  obtain ⟨wt, hwt, rfl⟩ := nI_of c2
  by_cases c3 : wt ≤ 1000
  rotate_left
  · rw [if_pos (nI_lt (by omega) hwt)]
  rw [if_neg (nI_nlt c3 (by omega))]
  simp only [o2, Option.bind_some, o3.s4]
  rcases K_holds o3 (fun a ha => by have := room_le hc ha; omega) x3 x4 x5 with ⟨_, e1⟩ | ⟨⟨q, q1, q2, q3, q4⟩, _⟩
  · rw [e1]
    simp only [z_rI, Option.bind_some]
    rw [if_pos nI_0]
  · exact absurd ⟨nm, q, wt, rfl, c1, q2, q3, q4, q1, rfl, c3⟩ n
/-- the way to the name -/
theorem K_put_at {v : Nat → Nat} (sv : SV v) {M : q_M} (h : SH M) (hs : HS M 2 v) {j : Nat} (hj : j < 4) (e : v (oS j) = 1) {nm wt : Nat} {q : Nat → Nat} (hn : nm ≤ 9999) (hw : wt ≤ 1000) (hq : ∀ a, a < 3 → q a < cB (cK v (v (oS j + 1))) ^ cL v (v (oS j + 1)) a) : ((∃ p, p < v (oS j + 2) ∧ nm = v (oS j + 4 + 6 * p)) → q_CL 89 [.inr (.inr (some 1)), .inl (nI j), .inl (nI nm), .inl (nI (q 0)), .inl (nI (q 1)), .inl (nI (q 2)), .inl (nI wt)] M = some (some (.inl (-5)), M)) ∧ ((∀ p, p < v (oS j + 2) → v (oS j + 4 + 6 * p) ≠ nm) → v (oS j + 2) = 300 → q_CL 89 [.inr (.inr (some 1)), .inl (nI j), .inl (nI nm), .inl (nI (q 0)), .inl (nI (q 1)), .inl (nI (q 2)), .inl (nI wt)] M = some (some (.inl (-6)), M)) := by
  obtain ⟨c, r, ps, sz, o1, o2, o3, o4, o5, _⟩ := HS.op h hs hj e
  have hc := (sv.i8 hj e).2
  have sw := sv.sw hj e
  have ki := K_idx o5 sw.1 (nI nm)
  rw [C_X11_put]
  simp only [c_sel h, Option.bind_some, K_sA h hs hj e, z_rR]
  rw [if_neg (by simp), if_neg (nI_pos (by omega)), if_neg (nI_nlt hn (by omega)), if_neg (nI_pos (by omega)), if_neg (nI_nlt hw (by omega))]
  simp only [o2, Option.bind_some, o3.s4]
  rcases K_holds o3 (fun a ha => by have := room_le hc ha; omega) (nI (q 0)) (nI (q 1)) (nI (q 2)) with ⟨e1, _⟩ | ⟨_, e1⟩
  · exact absurd ⟨q, hq, rfl, rfl, rfl⟩ e1
  rw [e1]
  simp only [z_rI, Option.bind_some]
  rw [if_neg (show ¬ nI 1 = 0 by decide +kernel)]
  simp only [o4, Option.bind_some, o5.sel]
  refine ⟨fun ⟨p, p1, p2⟩ => ?_, fun n1 n2 => ?_⟩
  · have na : nmAt v (oS j) (nI nm) p := by
      refine ⟨p1, by rw [p2], fun y hy z => ?_⟩
      have b1 := (sw.2.2.2.2.1 y (by omega)).1
      have := (sw.2.2.2.2.2 y p hy p1).1
      have := (nI_eq (by omega) (by omega)).mp z
      omega
    rw [ki.2 p na]
    simp only [z_rI, Option.bind_some]
    have := sw.1
    rw [if_neg (nI_pos (by omega))]
  · rw [ki.1 (fun p hp z => n1 p hp (by
      have b1 := (sw.2.2.2.2.1 p hp).1
      exact ((nI_eq (by omega) (by omega)).mp z).symm))]
    simp only [z_rI, Option.bind_some]
    rw [if_pos (show (-1 : Int32) < 0 by decide)]
    simp only [o4, o5.f2, Option.bind_some, n2]
    rw [if_neg (nI_nlt (by omega) (by omega))]
theorem SW_62 {v : Nat → Nat} {i o : Nat} (hc : okI v i) (s : SW v i o) : ∀ y, y < v (o + 2) → v (o + 4 + 6 * y + 5) < 2 ^ 62 := fun y hy => by
  obtain ⟨_, _, _, _, s5, _⟩ := s
  obtain ⟨_, _, s3, s4⟩ := s5 y hy
  rw [s4]
  have := npI_lt hc s3
  have := cS_62 hc
  omega
theorem HS.kp2 {P : Nat → Prop} {n s : Nat} {M M1 : q_M} (f : FB P n s M M1) (g : 63 ≤ gN M) (hp : ∀ a, P a → a < 63 ∧ a ≠ 23) (hq : ∀ a, 15 ≤ a → a < 23 → ¬ P a) {v : Nat → Nat} (h : HS M 2 v) : HS M1 2 v := HS.fb f g (fun a _ z => hp a z) (by omega) (fun j hj => hq _ (by omega) (by omega)) h
/-- put, where it goes -/
theorem K_put {v : Nat → Nat} (sv : SV v) {M : q_M} (h : SH M) (ib : IB M) (hs : HS M 2 v) (wz : WZ M) {j : Nat} (hj : j < 4) (e : v (oS j) = 1) {nm wt p g k : Nat} {q : Nat → Nat} (hn : nm ≤ 9999) (hw : wt ≤ 1000) (hq : ∀ a, a < 3 → q a < cB (cK v (v (oS j + 1))) ^ cL v (v (oS j + 1)) a) (fr_ : ∀ p, p < v (oS j + 2) → v (oS j + 4 + 6 * p) ≠ nm) (hm : v (oS j + 2) < 300) (ca : cmAt (kpU v j) (v (oS j + 1)) (oS j) nm q wt p g k) (rn : gN M + 4 ≤ 600000) (rs : gS M + 690 ≤ 7302250) : ∃ M1, q_CL 89 [.inr (.inr (some 1)), .inl (nI j), .inl (nI nm), .inl (nI (q 0)), .inl (nI (q 1)), .inl (nI (q 2)), .inl (nI wt)] M = some (some (.inl (nI k)), M1) ∧ FB (acP j) 4 690 M M1 ∧ WZ M1 ∧ HS M1 2 (cmV (kpU v j) (oS j) p g (cP nm q wt (npI (kpU v j) (v (oS j + 1)) q))) := by
  have gg := h.2.2.2
  obtain ⟨c, r, ps, sz, o1, o2, o3, o4, o5, st1, st2, st3⟩ := HS.op h hs hj e
  obtain ⟨i8, hc⟩ := sv.i8 hj e
  have sw := sv.sw hj e
  have ob := oS_b hj
  have ki := (K_idx o5 sw.1 (nI nm)).1 (fun p hp z => fr_ p hp (by
      have b1 := (sw.2.2.2.2.1 p hp).1
      exact ((nI_eq (by omega) (by omega)).mp z).symm))
  obtain ⟨svU, swU, e1U, e0U⟩ := SV_kpU hj sv e
  obtain ⟨k1, k2, k3, k4, k5, k6⟩ := kpU_a (v := v) hj
  have kc : ∀ x, x < 49 → kpU v j x = v x := fun x hx => k1 x (by omega)
  have hcU : okI (kpU v j) (v (oS j + 1)) := okI_cg kc i8 hc
  obtain ⟨cx1, cx2, cx3, cx4⟩ := cX_cg kc i8
  have hqU : ∀ a, a < 3 → q a < cB (cK (kpU v j) (v (oS j + 1))) ^ cL (kpU v j) (v (oS j + 1)) a := fun a ha => by rw [cx1, cx3 a ha]; exact hq a ha
  have oU : RWx M r ps sz (kpU v j) (oS j) := o5.cg sw.1 (Nat.le_trans sw.2.1 sw.1) k2
  have m2 := k2 2 (by omega)
  have frU : ∀ y, y < kpU v j (oS j + 2) → kpU v j (oS j + 4 + 6 * y) ≠ nm := fun y hy => by
    rw [m2] at hy
    have := k2 (4 + 6 * y) (by omega)
    rw [← Nat.add_assoc] at this
    rw [this]
    exact fr_ y hy
  -- the row
  obtain ⟨r0, M1, r1, r2, r3, r4, r5, r6⟩ := K_rowN (c := 1) h ib oU st1 st2 st3 swU.1 (Nat.le_trans swU.2.1 swU.1) (by omega) (by omega) (by omega)
  have h1 := r2.sh h
  have ib1 := r2.ib gg (fun z => z) ib
  have kp1 := r2.kp gg (fun _ _ z => z.elim)
  have wz1 : WZ M1 := ⟨((r2.2.2.2.2.1 34 0 (by omega) (fun z => z)).1).trans wz.1, ((r2.2.2.2.2.1 35 0 (by omega) (fun z => z)).2.1).trans wz.2⟩
  have hs1 := HS.kp2 r2 gg (fun _ z => z.elim) (fun _ _ _ z => z) hs
  have coU := (o3.vu i8 kc).kp kp1
  have s1 : ST M1 (gN M) ∧ ST M1 (gN M + 1) ∧ ST M1 (gN M + 2) := ⟨ST_new r2 gg (fun z => z) ib (by omega) (by omega), ST_new r2 gg (fun z => z) ib (by omega) (by omega), ST_new r2 gg (fun z => z) ib (by omega) (by omega)⟩
  have gs1 := r2.2.2.1
  -- the point
  obtain ⟨p0, B, M2, p1, p2, p3, p4, p5, p6⟩ := K_ptN (nm := nm) (wt := wt) hcU h1 ib1 coU wz1 hqU (by omega) (by omega)
  have h2 := p3.sh h1
  have kp2 := p3.kp (by omega) (fun a _ z => wsc_63 a z)
  have d2 := r4.kp s1.1 s1.2.1 s1.2.2 kp2
  have l1 : kpU v j (oS j + 2) < M2.2.1 (gN M + 1) := by rw [(p3.2.2.2.1 (gN M + 1) (by omega)).2, r5]; omega
  have l2 : kpU v j (oS j + 3) < M2.2.1 (gN M + 2) := by rw [(p3.2.2.2.1 (gN M + 2) (by omega)).2, r6]; omega
  -- it comes
  have hN : npI (kpU v j) (v (oS j + 1)) q < 2 ^ 62 := by
    have := npI_lt hcU hqU
    have := cS_62 hcU
    omega
  obtain ⟨M3, q1, q2, q3⟩ := K_come i8 hcU swU (by omega) (by rw [m2]; exact hm) ca hqU hn hw frU hN (SW_62 hcU swU) h2 d2 ⟨by omega, by omega, by omega⟩ l1 l2 p6
  have f12 : FB wsc (3 + 1) (684 + 6) M M2 := (r2.wk (fun _ _ z => z.elim) (Nat.le_refl _) (Nat.le_refl _) : FB wsc 3 684 M M1).tr p3 (fun _ _ z => z)
  have f13 : FB wsc (3 + 1 + 0) (684 + 6 + 0) M M3 := f12.tr q2.fb (fun x hx z => by rcases z with z | z | z <;> omega)
  have h3 := f13.sh h
  have hs3 := HS.kp2 f13 gg wsc_63 (fun a _ _ z => by unfold wsc at z; omega) hs
  have n3 : gN M3 = gN M + 4 := by rw [q2.gn]; omega
  have rw3 : RW M3 (gN M) (cmV (kpU v j) (oS j) p g (cP nm q wt (npI (kpU v j) (v (oS j + 1)) q))) (oS j) := ⟨gN M + 1, gN M + 2, q3, ST_new f13 gg (by unfold wsc; omega) ib (by omega) (by omega), ST_new f13 gg (by unfold wsc; omega) ib (by omega) (by omega), ST_new f13 gg (by unfold wsc; omega) ib (by omega) (by omega)⟩
  have swm := (SW_cm i8 hcU swU (by omega) (by rw [m2]; exact hm) ca.1 ca.2.1 ca.2.2.1 ca.2.2.2.1 (fun z => (ca.2.2.2.2.1 z).1) hqU hn hw frU).2
  have va := (cmV_a (c := cP nm q wt (npI (kpU v j) (v (oS j + 1)) q)) (fun z => by have := swU.2.1; omega) (by rw [m2]; exact hm) (by have := swU.2.1; omega) ca.1 swm).2.2.1
  obtain ⟨M4, a1, a2, a3⟩ := K_act sv h3 hs3 hj e rw3 (acT_of hj e va)
  have wz3 : WZ M3 := WZ.fc q2 ⟨fun z => by rcases z with z | z | z <;> omega, fun z => by rcases z with z | z | z <;> omega⟩ p5
  refine ⟨M4, ?_, ?_, WZ.fc a2 ⟨by unfold sh2; omega, by unfold sh2; omega⟩ wz3, a3⟩
  · rw [C_X11_put]
    simp only [c_sel h, Option.bind_some, K_sA h hs hj e, z_rR]
    rw [if_neg (by simp), if_neg (nI_pos (by omega)), if_neg (nI_nlt hn (by omega)), if_neg (nI_pos (by omega)), if_neg (nI_nlt hw (by omega))]
    simp only [o2, Option.bind_some, o3.s4]
    rcases K_holds o3 (fun a ha => by have := room_le hc ha; omega) (nI (q 0)) (nI (q 1)) (nI (q 2)) with ⟨e1, _⟩ | ⟨_, e1⟩
    · exact absurd ⟨q, hq, rfl, rfl, rfl⟩ e1
    rw [e1]
    simp only [z_rI, Option.bind_some]
    rw [if_neg (show ¬ nI 1 = 0 by decide +kernel)]
    simp only [o4, Option.bind_some, o5.sel, ki, z_rI]
    rw [if_pos (by decide)]
    simp only [o5.f2, Option.bind_some]
    rw [if_pos (nI_lt hm (by omega))]
    have bR : q_fR (q_born M 3 4) 5 (15 + 2 * j) 1 = some (some r) := by
      have t := (h_t h hj).1
      rw [z_fR (by rw [t_bornx (by omega), t]; rfl), gR_bornx (by omega)]
      rw [z_fR (h_is h hj)] at o4
      exact o4
    have bC : q_fR (q_born M1 2 6) 5 (15 + 2 * j) 0 = some (some c) := by
      have t := (h_t h1 hj).1
      have n1 : gN M1 = gN M + 3 := r3
      rw [z_fR (by rw [t_bornx (by omega), t]; rfl), gR_bornx (by omega), (r2.2.2.2.2.1 _ _ (by omega) (fun z => z)).2.2]
      rw [z_fR (h_is h hj)] at o2
      exact o2
    have hB := (FB.born (fun _ => False) M1 (by omega) 2 6).sh h1
    simp only [r0, Option.bind_some, bR, gN_d, r1, z_rV, p0, c_now hB (show (1, 4, 25) ∈ q_crs by decide), bC, w_sel hB, p1, z_rL, p2, z_sel d2.1, q1, z_rI, z_sel (h_t h3 hj).1, a1]
  · exact ((f13.wk (fun _ _ z => Or.inl z) (Nat.le_refl _) (Nat.le_refl _) : FB (acP j) (3 + 1 + 0) (684 + 6 + 0) M M3).tr a2.fb (fun _ _ z => Or.inr z)).wk (fun _ _ z => z) (by omega) (by omega)
