/-! ===== WHAT STANDS: the shelves ===== -/
theorem SV.i8 {v : Nat → Nat} (s : SV v) {j : Nat} (hj : j < 4) (e : v (oS j) = 1) : v (oS j + 1) < 8 ∧ okI v (v (oS j + 1)) := by
  have a := (s.2 j hj).2.2 e
  have := s.1.1
  exact ⟨by omega, s.1.2 _ a.1⟩
theorem SV.sw {v : Nat → Nat} (s : SV v) {j : Nat} (hj : j < 4) (e : v (oS j) = 1) : SW v (v (oS j + 1)) (oS j) := ((s.2 j hj).2.2 e).2 0 (Nat.zero_le _) |>.2.2
theorem SV_kpU {v : Nat → Nat} {j : Nat} (hj : j < 4) (s : SV v) (e : v (oS j) = 1) : SV (kpU v j) ∧ SW (kpU v j) (v (oS j + 1)) (oS j) ∧ kpU v j (oS j + 1) = v (oS j + 1) ∧ kpU v j (oS j) = 1 := by
  obtain ⟨a1, a2, a3, a4, a5, a6⟩ := kpU_a (v := v) hj
  have cg : ∀ x, x < 49 → kpU v j x = v x := fun x hx => a1 x (by omega)
  have b0 := a2 0 (by omega)
  rw [Nat.add_zero] at b0
  have b1 := a2 1 (by omega)
  have e0 := a1 0 (by omega)
  obtain ⟨i8, hc⟩ := s.i8 hj e
  obtain ⟨t1, t2, t3⟩ := s.2 j hj
  obtain ⟨t4, t5⟩ := t3 e
  have key : SV (kpU v j) := by
    refine ⟨WC_cg cg s.1, fun k hk => ?_⟩
    by_cases q : k = j
    · subst q
      rw [b0, b1, a5, e0]
      refine ⟨t1, ?_, fun _ => ⟨t4, fun n hn => ?_⟩⟩
      · by_cases z : 6 ≤ v (60180 + k)
        · rw [if_pos z]; exact t2
        · rw [if_neg z]; omega
      · rcases Nat.eq_zero_or_pos n with z | z
        · subst z
          refine ⟨b0.trans e, b1, SW_cg i8 hc cg (fun x hx => a2 x hx) (t5 0 (Nat.zero_le _)).2.2⟩
        · have hn6 : n ≤ 6 ∧ n - 1 ≤ v (60180 + k) := by
            by_cases y : 6 ≤ v (60180 + k)
            · rw [if_pos y] at hn; omega
            · rw [if_neg y] at hn; omega
          obtain ⟨u1, u2, u3⟩ := t5 (n - 1) hn6.2
          have c0 := a3 n 0 z hn6.1 (by omega)
          rw [Nat.add_zero, Nat.add_zero] at c0
          exact ⟨c0.trans u1, (a3 n 1 z hn6.1 (by omega)).trans u2, SW_cg i8 hc cg (fun x hx => a3 n x z hn6.1 hx) u3⟩
    · obtain ⟨s1, s2, s3⟩ := s.2 k hk
      have c0 := a4 k 0 hk q (by omega)
      rw [Nat.add_zero] at c0
      rw [c0, a4 k 1 hk q (by omega), a6 k hk q, e0]
      refine ⟨s1, s2, fun y => ?_⟩
      obtain ⟨s4, s5⟩ := s3 y
      obtain ⟨i8, hc⟩ := s.i8 hk y
      refine ⟨s4, fun n hn => ?_⟩
      obtain ⟨u1, u2, u3⟩ := s5 n hn
      have d : ∀ x, x < 2110 → kpU v j (oS k + 2110 * n + x) = v (oS k + 2110 * n + x) := fun x hx => by
        rw [Nat.add_assoc]; exact a4 k (2110 * n + x) hk q (by omega)
      have d0 := d 0 (by omega)
      rw [Nat.add_zero] at d0
      exact ⟨d0.trans u1, (d 1 (by omega)).trans u2, SW_cg i8 hc cg d u3⟩
  exact ⟨key, by have := key.sw hj (b0.trans e); rw [b1] at this; exact this, b1, b0.trans e⟩
theorem SV_kpD {v : Nat → Nat} {j : Nat} (hj : j < 4) (s : SV v) (e : v (oS j) = 1) (h1 : 1 ≤ v (60180 + j)) : SV (kpD v j) := by
  obtain ⟨a1, a3, a4, a5, a6⟩ := kpD_a (v := v) hj
  have cg : ∀ x, x < 49 → kpD v j x = v x := fun x hx => a1 x (by omega)
  have e0 := a1 0 (by omega)
  obtain ⟨i8, hc⟩ := s.i8 hj e
  obtain ⟨t1, t2, t3⟩ := s.2 j hj
  obtain ⟨t4, t5⟩ := t3 e
  have b0 := a3 0 0 (by omega) (by omega)
  have b1 := a3 0 1 (by omega) (by omega)
  simp only [Nat.mul_zero, Nat.add_zero, Nat.zero_add, Nat.mul_one] at b0 b1
  obtain ⟨o1, o2, o3⟩ := t5 1 h1
  rw [Nat.mul_one] at o1 o2 o3
  refine ⟨WC_cg cg s.1, fun k hk => ?_⟩
  by_cases q : k = j
  · subst q
    rw [b0, b1, a5, e0, o1, o2]
    refine ⟨by omega, by omega, fun _ => ⟨t4, fun n hn => ?_⟩⟩
    obtain ⟨u1, u2, u3⟩ := t5 (n + 1) (by omega)
    have c0 := a3 n 0 (by omega) (by omega)
    rw [Nat.add_zero, Nat.add_zero] at c0
    exact ⟨c0.trans u1, (a3 n 1 (by omega) (by omega)).trans u2, SW_cg i8 hc cg (fun x hx => a3 n x (by omega) hx) u3⟩
  · obtain ⟨s1, s2, s3⟩ := s.2 k hk
    have c0 := a4 k 0 hk q (by omega)
    rw [Nat.add_zero] at c0
    rw [c0, a4 k 1 hk q (by omega), a6 k hk q, e0]
    refine ⟨s1, s2, fun y => ?_⟩
    obtain ⟨s4, s5⟩ := s3 y
    obtain ⟨i8, hc⟩ := s.i8 hk y
    refine ⟨s4, fun n hn => ?_⟩
    obtain ⟨u1, u2, u3⟩ := s5 n hn
    have d : ∀ x, x < 2110 → kpD v j (oS k + 2110 * n + x) = v (oS k + 2110 * n + x) := fun x hx => by
      rw [Nat.add_assoc]; exact a4 k (2110 * n + x) hk q (by omega)
    have d0 := d 0 (by omega)
    rw [Nat.add_zero] at d0
    exact ⟨d0.trans u1, (d 1 (by omega)).trans u2, SW_cg i8 hc cg d u3⟩
/-- only the slice at hand changes -/
theorem SV_sl {v u : Nat → Nat} {j : Nat} (hj : j < 4) (s : SV v) (e : v (oS j) = 1) (d : ∀ x, x < oS j + 2 ∨ oS j + 2110 ≤ x → u x = v x) (w : SW u (v (oS j + 1)) (oS j)) : SV u := by
  have ob := oS_b hj
  have cg : ∀ x, x < 49 → u x = v x := fun x hx => d x (by omega)
  refine ⟨WC_cg cg s.1, fun k hk => ?_⟩
  have obk := oS_b hk
  obtain ⟨s1, s2, s3⟩ := s.2 k hk
  have f : ∀ x, x < 14770 → (k ≠ j ∨ x < 2 ∨ 2110 ≤ x) → u (oS k + x) = v (oS k + x) := fun x hx4 hx => d _ (by
    by_cases q : k = j
    · subst q; omega
    · unfold oS at *; omega)
  have f0 := f 0 (by omega) (by omega)
  rw [Nat.add_zero] at f0
  rw [f0, f 1 (by omega) (by omega), d (60180 + k) (by omega), d 0 (by omega)]
  refine ⟨s1, s2, fun y => ?_⟩
  obtain ⟨s4, s5⟩ := s3 y
  obtain ⟨i8, hc⟩ := s.i8 hk y
  refine ⟨s4, fun n hn => ?_⟩
  obtain ⟨u1, u2, u3⟩ := s5 n hn
  have g0 := f (2110 * n) (by omega) (by omega)
  have g1 := f (2110 * n + 1) (by omega) (by omega)
  rw [← Nat.add_assoc] at g1
  refine ⟨g0.trans u1, g1.trans u2, ?_⟩
  by_cases q : k = j ∧ n = 0
  · obtain ⟨rfl, rfl⟩ := q
    exact w
  · refine SW_cg i8 hc cg (fun x hx => ?_) u3
    rw [Nat.add_assoc]
    exact f _ (by omega) (by omega)
/-! ===== THE REFERENCE: put ===== -/
/-- where a point comes, and on which page it is then -/
def cmAt (v : Nat → Nat) (i o nm : Nat) (q : Nat → Nat) (wt p g k : Nat) : Prop := p ≤ v (o + 2) ∧ (∀ y, y < p → bef v o y (npI v i q) nm) ∧ (p < v (o + 2) → ¬ bef v o p (npI v i q) nm) ∧ (p = 0 → g = 0) ∧ (0 < p → g < v (o + 3) ∧ psm v o g ≤ p - 1 ∧ p - 1 < psm v o (g + 1)) ∧ psm (cmV v o p g (cP nm q wt (npI v i q))) o k ≤ p ∧ p < psm (cmV v o p g (cP nm q wt (npI v i q))) o (k + 1)
/-- what a put asks for is in order -/
def ptOk (v : Nat → Nat) (i : Nat) (x2 x3 x4 x5 x6 : Int32) : Prop := ∃ (nm : Nat) (q : Nat → Nat) (wt : Nat), x2 = nI nm ∧ nm ≤ 9999 ∧ x3 = nI (q 0) ∧ x4 = nI (q 1) ∧ x5 = nI (q 2) ∧ (∀ a, a < 3 → q a < cB (cK v i) ^ cL v i a) ∧ x6 = nI wt ∧ wt ≤ 1000
theorem R_put {v : Nat → Nat} (s : SV v) {w : Nat → Int32} {M : q_M} (h : SH M) (r : RI M v) (wi : WI M w) (x1 x2 x3 x4 x5 x6 : Int32) : (¬ (∃ j, j < 4 ∧ x1 = nI j ∧ v (oS j) = 1) ∧ ∃ M1, q_CL 192 [.inr (.inr (some 49)), .inl x1, .inl x2, .inl x3, .inl x4, .inl x5, .inl x6] M = some (some (.inl (-1)), M1) ∧ FO (fun _ => False) M M1) ∨ ∃ j, j < 4 ∧ x1 = nI j ∧ v (oS j) = 1 ∧ ((¬ ptOk v (v (oS j + 1)) x2 x3 x4 x5 x6 ∧ ∃ M1, q_CL 192 [.inr (.inr (some 49)), .inl x1, .inl x2, .inl x3, .inl x4, .inl x5, .inl x6] M = some (some (.inl (-2)), M1) ∧ FO (fun _ => False) M M1) ∨ ∃ (nm : Nat) (q : Nat → Nat) (wt : Nat), x2 = nI nm ∧ nm ≤ 9999 ∧ x3 = nI (q 0) ∧ x4 = nI (q 1) ∧ x5 = nI (q 2) ∧ (∀ a, a < 3 → q a < cB (cK v (v (oS j + 1))) ^ cL v (v (oS j + 1)) a) ∧ x6 = nI wt ∧ wt ≤ 1000 ∧ (((∃ p, p < v (oS j + 2) ∧ nm = v (oS j + 4 + 6 * p)) ∧ ∃ M1, q_CL 192 [.inr (.inr (some 49)), .inl x1, .inl x2, .inl x3, .inl x4, .inl x5, .inl x6] M = some (some (.inl (-5)), M1) ∧ FO (fun _ => False) M M1) ∨ ((∀ p, p < v (oS j + 2) → v (oS j + 4 + 6 * p) ≠ nm) ∧ ((v (oS j + 2) = 300 ∧ ∃ M1, q_CL 192 [.inr (.inr (some 49)), .inl x1, .inl x2, .inl x3, .inl x4, .inl x5, .inl x6] M = some (some (.inl (-6)), M1) ∧ FO (fun _ => False) M M1) ∨ (v (oS j + 2) < 300 ∧ ∃ p g k M1, cmAt (kpU v j) (v (oS j + 1)) (oS j) nm q wt p g k ∧ q_CL 192 [.inr (.inr (some 49)), .inl x1, .inl x2, .inl x3, .inl x4, .inl x5, .inl x6] M = some (some (.inl (nI k)), M1) ∧ FO f50 M M1 ∧ RI M1 (cmV (kpU v j) (oS j) p g (cP nm q wt (npI (kpU v j) (v (oS j + 1)) q))) ∧ WI M1 w ∧ SV (cmV (kpU v j) (oS j) p g (cP nm q wt (npI (kpU v j) (v (oS j + 1)) q)))))))) := by
  rw [C_X12_put]
  simp only [m_sel h, Option.bind_some]
  rcases R_opens h r x1 with ⟨hx, M1, e, f⟩ | ⟨j, hj, rfl, eo, e⟩
  · left
    refine ⟨hx, M1, ?_, f⟩
    rw [e]; rfl
  right
  refine ⟨j, hj, rfl, eo, ?_⟩
  have ob := oS_b hj
  rw [e]
  simp only [z_rI, Option.bind_some]
  rw [if_neg (show ¬ nI 1 = 0 by decide +kernel)]
  have hA : SH (stI M 49 13 (nI (oS j))) := h
  have rA : RI (stI M 49 13 (nI (oS j))) v := r
  have wA : WI (stI M 49 13 (nI (oS j))) w := wi
  have fA : ∀ A, FO A M (stI M 49 13 (nI (oS j))) := fun A => (FO.rf A M).sO
  have eA : gI (stI M 49 13 (nI (oS j))) 49 13 = nI (oS j) := gI_self
  generalize stI M 49 13 (nI (oS j)) = A at *
  obtain ⟨i8, hc⟩ := s.i8 hj eo
  have sw := s.sw hj eo
  obtain ⟨s1, s2, s3, s4, s5, s6⟩ := sw
  by_cases n0 : x2 < 0
  · left
    refine ⟨?_, A, if_pos n0, fA _⟩
    rintro ⟨nm, q, wt, rfl, a2, _⟩
    exact nI_pos (by omega) n0
  rw [if_neg n0]
  by_cases n1 : nI 9999 < x2
  · left
    refine ⟨?_, A, if_pos n1, fA _⟩
    rintro ⟨nm, q, wt, rfl, a2, _⟩
    exact nI_nlt a2 (by omega) n1
  rw [if_neg n1]
  obtain ⟨nm, hnm, rfl⟩ : ∃ nm, nm ≤ 9999 ∧ x2 = nI nm := by
    rcases pk_ix x2 (show 10000 < 2 ^ 31 by omega) with q | q | ⟨nm, q, e⟩
    · exact absurd q n0
    · exfalso
      have a1 : (nI 10000).toInt ≤ x2.toInt := Int32.le_iff_toInt_le.mp q
      have a2 : ¬ (nI 9999).toInt < x2.toInt := fun z => n1 (Int32.lt_iff_toInt_lt.mpr z)
      rw [nI_toInt (by omega)] at a1 a2
      omega
    · exact ⟨nm, by omega, e⟩
  simp only [m_sel hA, Option.bind_some, (R_fld hA rA (by omega) eA).2.2, z_rI]
  rcases R_isP hA rA i8 hc x3 x4 x5 with ⟨np_, ep⟩ | ⟨⟨q, hq, rfl, rfl, rfl⟩, ep⟩
  · left
    refine ⟨?_, A, ?_, fA _⟩
    · rintro ⟨nm, q, wt, _, _, a1, a2, a3, a4, _⟩
      exact np_ ⟨q, a4, a1, a2, a3⟩
    · rw [ep]; rfl
  rw [ep]
  simp only [z_rI, Option.bind_some]
  rw [if_neg (show ¬ nI 1 = 0 by decide +kernel)]
  by_cases w0 : x6 < 0
  · left
    refine ⟨?_, A, if_pos w0, fA _⟩
    rintro ⟨_, _, wt, _, _, _, _, _, _, rfl, a⟩
    exact nI_pos (by omega) w0
  rw [if_neg w0]
  by_cases w1 : x6 ≤ nI 1000
  rotate_left
  · left
    refine ⟨?_, A, if_neg w1, fA _⟩
    rintro ⟨_, _, wt, _, _, _, _, _, _, rfl, a⟩
    exact w1 (nI_le a (by omega))
  rw [if_pos w1]
  obtain ⟨wt, hwt, rfl⟩ : ∃ wt, wt ≤ 1000 ∧ x6 = nI wt := by
    rcases pk_ix x6 (show 1001 < 2 ^ 31 by omega) with q | q | ⟨wt, q, e⟩
    · exact absurd q w0
    · exfalso
      have a1 : (nI 1001).toInt ≤ x6.toInt := Int32.le_iff_toInt_le.mp q
      have a2 : x6.toInt ≤ (nI 1000).toInt := Int32.le_iff_toInt_le.mp w1
      rw [nI_toInt (by omega)] at a1 a2
      omega
    · exact ⟨wt, by omega, e⟩
  right
  refine ⟨nm, q, wt, rfl, hnm, rfl, rfl, rfl, hq, rfl, hwt, ?_⟩
  simp only [m_sel hA, Option.bind_some]
  rcases R_named hA rA (by omega) eA s1 (fun p hp => by have := (s5 p hp).1; omega) (nI nm) with ⟨hf, en⟩ | ⟨p, hp, ex, _, en⟩
  rotate_left
  · left
    refine ⟨⟨p, hp, (nI_eq (by omega) (by have := (s5 p hp).1; omega)).mp ex⟩, A, ?_, fA _⟩
    rw [en]
    simp only [z_rI, Option.bind_some]
    rw [if_neg (nI_nm1 (by omega))]
  right
  refine ⟨fun p hp z => hf p hp (by rw [z]), ?_⟩
  rw [en]
  simp only [z_rI, Option.bind_some, if_pos, m_sel hA, (R_fld hA rA (show 1100 ≤ oS j ∧ oS j + 2110 ≤ 60180 by omega) eA).1, nI_eq (show v (oS j + 2) < 2 ^ 31 by omega) (show 300 < 2 ^ 31 by omega)]
  by_cases m3 : v (oS j + 2) = 300
  · left
    exact ⟨m3, A, if_pos m3, fA _⟩
  right
  refine ⟨by omega, ?_⟩
  simp only [if_neg m3]
  obtain ⟨M1, p1, p2, p3, p4⟩ := R_kp1 hj (show ¬ nI 1 = 0 by decide +kernel) hA rA wA
  have h1 := p2.sh hA
  have e1 : gI M1 49 13 = nI (oS j) := (p2.2.2.2.1 49 13 (by unfold scr; omega)).trans eA
  obtain ⟨u1, u2, u3, u4⟩ := SV_kpU hj s eo
  obtain ⟨_, ku, _⟩ := kpU_a (v := v) hj
  obtain ⟨t1, t2, t3, t4, t5, t6⟩ := u2
  obtain ⟨c1, c2, c3, c4⟩ := cX_cg (v := v) (u := kpU v j) (fun x hx => (kpU_a (v := v) hj).1 x (by omega)) i8
  have hc2 : okI (kpU v j) (v (oS j + 1)) := by have := (u1.i8 hj u4).2; rw [u3] at this; exact this
  have hq2 : ∀ a, a < 3 → q a < cB (cK (kpU v j) (v (oS j + 1))) ^ cL (kpU v j) (v (oS j + 1)) a := fun a ha => by rw [c1, c3 a ha]; exact hq a ha
  have k2 := ku 2 (by omega)
  obtain ⟨p, g, k, M2, b1, b2, b3, b4, b5, b6, b7, b8, b9, b10, b11⟩ := R_comes (o := oS j) (i := v (oS j + 1)) (nm := nm) (wt := wt) (q := q) (by omega) (by omega) (by omega) (by omega) (fun _ => t3) (fun k hk => (t4 k hk).2) u3 i8 hc2 hq2 (by omega) (by omega) h1 p3 p4 e1
  have sw2 := (SW_cm i8 hc2 ⟨t1, t2, t3, t4, t5, t6⟩ (by omega) (by omega) b1 b2 b3 b4 (fun z => (b5 z).1) hq2 hnm hwt (fun y hy z => by
    have e2 := ku (4 + 6 * y) (by omega)
    rw [← Nat.add_assoc] at e2
    rw [e2] at z
    exact hf y (by omega) (by rw [z])))
  refine ⟨p, g, k, M2, ⟨b1, b2, b3, b4, b5, b6, b7⟩, ?_, ((fA f50).tr (FO.of p2)).tr (FO.of b9), b10, b11, ?_⟩
  · simp only [p1, z_rV, Option.bind_some, m_sel h1, b8, z_rI]
  · have av := cmV_a (p := p) (g := g) (c := cP nm q wt (npI (kpU v j) (v (oS j + 1)) q)) (v := kpU v j) (o := oS j) (by omega) (by omega) (by omega) b1 sw2.2
    refine SV_sl hj u1 u4 av.2.2.1 ?_
    rw [u3]; exact sw2.1
