/-! ===== THE REFERENCE: find, drop, move ===== -/
/-- point p of the slice is the one that is named -/
def nmAt (v : Nat → Nat) (o : Nat) (x : Int32) (p : Nat) : Prop := p < v (o + 2) ∧ x = nI (v (o + 4 + 6 * p)) ∧ ∀ q, q < p → x ≠ nI (v (o + 4 + 6 * q))
theorem R_nm {v : Nat → Nat} {i o : Nat} (s : SW v i o) {M : q_M} (h : SH M) (r : RI M v) (ho : 1100 ≤ o ∧ o + 2110 ≤ 60180) (eo : gI M 49 13 = nI o) (x : Int32) : ((∀ p, p < v (o + 2) → x ≠ nI (v (o + 4 + 6 * p))) ∧ q_CL 184 [.inr (.inr (some 49)), .inl x] M = some (some (.inl (-1)), M)) ∨ ∃ p, nmAt v o x p ∧ q_CL 184 [.inr (.inr (some 49)), .inl x] M = some (some (.inl (nI p)), M) := by
  obtain ⟨s1, s2, s3, s4, s5, s6⟩ := s
  rcases R_named h r ho eo s1 (fun p hp => by have := (s5 p hp).1; omega) x with a | ⟨p, a, b, c, d⟩
  · exact Or.inl a
  · exact Or.inr ⟨p, ⟨a, b, c⟩, d⟩
theorem R_find {v : Nat → Nat} (s : SV v) {M : q_M} (h : SH M) (r : RI M v) (x1 x2 : Int32) : ∃ M1, FO (fun _ => False) M M1 ∧ ((¬ (∃ j, j < 4 ∧ x1 = nI j ∧ v (oS j) = 1) ∧ q_CL 185 [.inr (.inr (some 49)), .inl x1, .inl x2] M = some (some (.inl (-1)), M1)) ∨ ∃ j, j < 4 ∧ x1 = nI j ∧ v (oS j) = 1 ∧ (((∀ p, p < v (oS j + 2) → x2 ≠ nI (v (oS j + 4 + 6 * p))) ∧ q_CL 185 [.inr (.inr (some 49)), .inl x1, .inl x2] M = some (some (.inl (-1)), M1)) ∨ ∃ p, nmAt v (oS j) x2 p ∧ q_CL 185 [.inr (.inr (some 49)), .inl x1, .inl x2] M = some (some (.inl (nI p)), M1))) := by
  rw [C_X12_find]
  simp only [m_sel h, Option.bind_some]
  rcases R_opens h r x1 with ⟨hx, M1, e, f⟩ | ⟨j, hj, rfl, eo, e⟩
  · refine ⟨M1, f, Or.inl ⟨hx, ?_⟩⟩
    rw [e]; rfl
  have ob := oS_b hj
  refine ⟨stI M 49 13 (nI (oS j)), (FO.rf _ M).sO, Or.inr ⟨j, hj, rfl, eo, ?_⟩⟩
  rw [e]
  simp only [z_rI, Option.bind_some]
  rw [if_neg (show ¬ nI 1 = 0 by decide +kernel)]
  have hA : SH (stI M 49 13 (nI (oS j))) := h
  simp only [m_sel hA, Option.bind_some]
  rcases R_nm (s.sw hj eo) hA (show RI (stI M 49 13 (nI (oS j))) v from r) (by omega) gI_self x2 with ⟨a, b⟩ | ⟨p, a, b⟩
  · left
    refine ⟨a, ?_⟩
    rw [b]; rfl
  · right
    refine ⟨p, a, ?_⟩
    rw [b]; rfl
theorem nmAt_u {v u : Nat → Nat} {o : Nat} {x : Int32} {p : Nat} (hm : v (o + 2) ≤ 300) (e : ∀ y, y < 2110 → u (o + y) = v (o + y)) (a : nmAt v o x p) : nmAt u o x p := by
  obtain ⟨a1, a2, a3⟩ := a
  have f : ∀ q, q < 300 → u (o + 4 + 6 * q) = v (o + 4 + 6 * q) := fun q hq => by
    have := e (4 + 6 * q) (by omega)
    rw [← Nat.add_assoc] at this
    exact this
  unfold nmAt
  rw [e 2 (by omega)]
  refine ⟨a1, by rw [f p (by omega)]; exact a2, fun q hq => by rw [f q (by omega)]; exact a3 q hq⟩
theorem nmAt_eq {v : Nat → Nat} {o : Nat} {x : Int32} {p p2 : Nat} (a : nmAt v o x p) (b : nmAt v o x p2) : p = p2 := by
  rcases Nat.lt_trichotomy p p2 with q | q | q
  · exact absurd a.2.1 (b.2.2 p q)
  · exact q
  · exact absurd b.2.1 (a.2.2 p2 q)
/-- the page of point p -/
def pgAt (v : Nat → Nat) (o p g : Nat) : Prop := g < v (o + 3) ∧ psm v o g ≤ p ∧ p < psm v o (g + 1)
theorem R_drop {v : Nat → Nat} (s : SV v) {w : Nat → Int32} {M : q_M} (h : SH M) (r : RI M v) (wi : WI M w) (x1 x2 : Int32) : (¬ (∃ j p, j < 4 ∧ x1 = nI j ∧ v (oS j) = 1 ∧ nmAt v (oS j) x2 p) ∧ ∃ M1, q_CL 193 [.inr (.inr (some 49)), .inl x1, .inl x2] M = some (some (.inl (-1)), M1) ∧ FO (fun _ => False) M M1) ∨ ∃ j p g M1, j < 4 ∧ x1 = nI j ∧ v (oS j) = 1 ∧ nmAt v (oS j) x2 p ∧ pgAt (kpU v j) (oS j) p g ∧ q_CL 193 [.inr (.inr (some 49)), .inl x1, .inl x2] M = some (some (.inl (nI (v (oS j + 2) - 1))), M1) ∧ FO f50 M M1 ∧ RI M1 (gsV (kpU v j) (oS j) p g) ∧ WI M1 w ∧ SV (gsV (kpU v j) (oS j) p g) := by
  rw [C_X12_drop]
  simp only [m_sel h, Option.bind_some]
  rcases R_opens h r x1 with ⟨hx, M1, e, f⟩ | ⟨j, hj, rfl, eo, e⟩
  · left
    refine ⟨fun ⟨j, p, a, b, c, _⟩ => hx ⟨j, a, b, c⟩, M1, ?_, f⟩
    rw [e]; rfl
  have ob := oS_b hj
  rw [e]
  simp only [z_rI, Option.bind_some]
  rw [if_neg (show ¬ nI 1 = 0 by decide +kernel)]
  have hA : SH (stI M 49 13 (nI (oS j))) := h
  have rA : RI (stI M 49 13 (nI (oS j))) v := r
  have wA : WI (stI M 49 13 (nI (oS j))) w := wi
  have fA : ∀ A, FO A M (stI M 49 13 (nI (oS j))) := fun A => (FO.rf A M).sO
  have eA : gI (stI M 49 13 (nI (oS j))) 49 13 = nI (oS j) := gI_self
  generalize stI M 49 13 (nI (oS j)) = A at *
  have sw := s.sw hj eo
  obtain ⟨i8, hc⟩ := s.i8 hj eo
  simp only [m_sel hA, Option.bind_some]
  rcases R_nm sw hA rA (by omega) eA x2 with ⟨a, b⟩ | ⟨p, a, b⟩
  · left
    refine ⟨?_, A, ?_, fA _⟩
    · rintro ⟨j2, p, b1, b2, b3, b4⟩
      have : j = j2 := (nI_eq (by omega) (by omega)).mp b2
      subst this
      exact a p b4.1 b4.2.1
    · rw [b]; rfl
  right
  obtain ⟨_, ku, _⟩ := kpU_a (v := v) hj
  obtain ⟨u1, u2, u3, u4⟩ := SV_kpU hj s eo
  have a' := nmAt_u sw.1 ku a
  obtain ⟨M1, p1, p2, p3, p4⟩ := R_kp1 hj (show ¬ nI 1 = 0 by decide +kernel) hA rA wA
  have h1 := p2.sh hA
  have e1 : gI M1 49 13 = nI (oS j) := (p2.2.2.2.1 49 13 (by unfold scr; omega)).trans eA
  have b' : q_CL 184 [.inr (.inr (some 49)), .inl x2] M1 = some (some (.inl (nI p)), M1) := by
    rcases R_nm u2 h1 p3 (by omega) e1 x2 with ⟨c, d⟩ | ⟨p', c, d⟩
    · exact absurd a'.2.1 (c p a'.1)
    · rw [nmAt_eq a' c]; exact d
  obtain ⟨t1, t2, t3, t4, t5, t6⟩ := u2
  obtain ⟨g, M2, c1, c2, c3, c4, c5, c6, c7⟩ := R_goes (o := oS j) (p := p) (by omega) t1 a'.1 (by omega) t3 t4 h1 p3 p4 e1
  have h2 := c5.sh h1
  have e2 : gI M2 49 13 = nI (oS j) := (c5.2.2.2.1 49 13 (by unfold scr; omega)).trans e1
  have hc2 : okI (kpU v j) (v (oS j + 1)) := by have := (u1.i8 hj u4).2; rw [u3] at this; exact this
  obtain ⟨av2, _, avo, _⟩ := gsV_a (v := kpU v j) (o := oS j) (p := p) (g := g) t1 (by omega) a'.1 c1
  refine ⟨j, p, g, M2, hj, rfl, eo, a, ⟨c1, c2, c3⟩, ?_, ((fA f50).tr (FO.of p2)).tr (FO.of c5), c6, c7, ?_⟩
  · have e3 := (R_fld h2 c6 (by omega) e2).1
    rw [av2, ku 2 (by omega)] at e3
    rw [b]
    simp only [z_rI, Option.bind_some]
    rw [if_neg (nI_nm1 (by have := a.1; have := sw.1; omega))]
    simp only [m_sel hA, Option.bind_some, p1, z_rV, m_sel h1, b', z_rI, c4, m_sel h2, e3]
  · refine SV_sl hj u1 u4 avo ?_
    rw [u3]
    exact SW_gs i8 hc2 ⟨t1, t2, t3, t4, t5, t6⟩ (by omega) a'.1 c1
theorem R_move {v : Nat → Nat} (s : SV v) {w : Nat → Int32} {M : q_M} (h : SH M) (r : RI M v) (wi : WI M w) (x1 x2 x3 x4 x5 : Int32) : (¬ (∃ j p, j < 4 ∧ x1 = nI j ∧ v (oS j) = 1 ∧ nmAt v (oS j) x2 p) ∧ ∃ M1, q_CL 194 [.inr (.inr (some 49)), .inl x1, .inl x2, .inl x3, .inl x4, .inl x5] M = some (some (.inl (-1)), M1) ∧ FO (fun _ => False) M M1) ∨ ∃ j p, j < 4 ∧ x1 = nI j ∧ v (oS j) = 1 ∧ nmAt v (oS j) x2 p ∧ ((¬ isP v (v (oS j + 1)) x3 x4 x5 ∧ ∃ M1, q_CL 194 [.inr (.inr (some 49)), .inl x1, .inl x2, .inl x3, .inl x4, .inl x5] M = some (some (.inl (-2)), M1) ∧ FO (fun _ => False) M M1) ∨ ∃ (q : Nat → Nat) (g p2 g2 k : Nat) (M1 : q_M), x3 = nI (q 0) ∧ x4 = nI (q 1) ∧ x5 = nI (q 2) ∧ (∀ a, a < 3 → q a < cB (cK v (v (oS j + 1))) ^ cL v (v (oS j + 1)) a) ∧ pgAt (kpU v j) (oS j) p g ∧ cmAt (gsV (kpU v j) (oS j) p g) (v (oS j + 1)) (oS j) (v (oS j + 4 + 6 * p)) q (v (oS j + 4 + 6 * p + 4)) p2 g2 k ∧ q_CL 194 [.inr (.inr (some 49)), .inl x1, .inl x2, .inl x3, .inl x4, .inl x5] M = some (some (.inl (nI k)), M1) ∧ FO f50 M M1 ∧ RI M1 (cmV (gsV (kpU v j) (oS j) p g) (oS j) p2 g2 (cP (v (oS j + 4 + 6 * p)) q (v (oS j + 4 + 6 * p + 4)) (npI (gsV (kpU v j) (oS j) p g) (v (oS j + 1)) q))) ∧ WI M1 w ∧ SV (cmV (gsV (kpU v j) (oS j) p g) (oS j) p2 g2 (cP (v (oS j + 4 + 6 * p)) q (v (oS j + 4 + 6 * p + 4)) (npI (gsV (kpU v j) (oS j) p g) (v (oS j + 1)) q)))) := by
  rw [C_X12_move]
  simp only [m_sel h, Option.bind_some]
  rcases R_opens h r x1 with ⟨hx, M1, e, f⟩ | ⟨j, hj, rfl, eo, e⟩
  · left
    refine ⟨fun ⟨j, p, a, b, c, _⟩ => hx ⟨j, a, b, c⟩, M1, ?_, f⟩
    rw [e]; rfl
  have ob := oS_b hj
  rw [e]
  simp only [z_rI, Option.bind_some]
  rw [if_neg (show ¬ nI 1 = 0 by decide +kernel)]
  have hA : SH (stI M 49 13 (nI (oS j))) := h
  have rA : RI (stI M 49 13 (nI (oS j))) v := r
  have wA : WI (stI M 49 13 (nI (oS j))) w := wi
  have fA : ∀ A, FO A M (stI M 49 13 (nI (oS j))) := fun A => (FO.rf A M).sO
  have eA : gI (stI M 49 13 (nI (oS j))) 49 13 = nI (oS j) := gI_self
  generalize stI M 49 13 (nI (oS j)) = A at *
  have sw := s.sw hj eo
  obtain ⟨i8, hc⟩ := s.i8 hj eo
  simp only [m_sel hA, Option.bind_some]
  rcases R_nm sw hA rA (by omega) eA x2 with ⟨a, b⟩ | ⟨p, a, b⟩
  · left
    refine ⟨?_, A, ?_, fA _⟩
    · rintro ⟨j2, p, b1, b2, b3, b4⟩
      have : j = j2 := (nI_eq (by omega) (by omega)).mp b2
      subst this
      exact a p b4.1 b4.2.1
    · rw [b]; rfl
  right
  refine ⟨j, p, hj, rfl, eo, a, ?_⟩
  rw [b]
  simp only [z_rI, Option.bind_some]
  have hp3 : p < 300 := by have := a.1; have := sw.1; omega
  rw [if_neg (nI_nm1 (by omega))]
  simp only [m_sel hA, Option.bind_some, (R_fld hA rA (show 1100 ≤ oS j ∧ oS j + 2110 ≤ 60180 by omega) eA).2.2, z_rI]
  rcases R_isP hA rA i8 hc x3 x4 x5 with ⟨np_, ep⟩ | ⟨⟨q, hq, rfl, rfl, rfl⟩, ep⟩
  · left
    refine ⟨np_, A, ?_, fA _⟩
    rw [ep]; rfl
  right
  obtain ⟨kx, ku, _⟩ := kpU_a (v := v) hj
  obtain ⟨u1, u2, u3, u4⟩ := SV_kpU hj s eo
  have a' := nmAt_u sw.1 ku a
  obtain ⟨M1, p1, p2, p3, p4⟩ := R_kp1 hj (show ¬ nI 1 = 0 by decide +kernel) hA rA wA
  have h1 := p2.sh hA
  have e1 : gI M1 49 13 = nI (oS j) := (p2.2.2.2.1 49 13 (by unfold scr; omega)).trans eA
  have b' : q_CL 184 [.inr (.inr (some 49)), .inl x2] M1 = some (some (.inl (nI p)), M1) := by
    rcases R_nm u2 h1 p3 (by omega) e1 x2 with ⟨c, d⟩ | ⟨p', c, d⟩
    · exact absurd a'.2.1 (c p a'.1)
    · rw [nmAt_eq a' c]; exact d
  have sw1 := u2
  obtain ⟨t1, t2, t3, t4, t5, t6⟩ := u2
  obtain ⟨g, M2, c1, c2, c3, c4, c5, c6, c7⟩ := R_goes (o := oS j) (p := p) (by omega) t1 a'.1 (by omega) t3 t4 h1 p3 p4 e1
  have h2 := c5.sh h1
  have e2 : gI M2 49 13 = nI (oS j) := (c5.2.2.2.1 49 13 (by unfold scr; omega)).trans e1
  have hc2 : okI (kpU v j) (v (oS j + 1)) := by have := (u1.i8 hj u4).2; rw [u3] at this; exact this
  obtain ⟨av2, _, avo, avp, _⟩ := gsV_a (v := kpU v j) (o := oS j) (p := p) (g := g) t1 (by omega) a'.1 c1
  have sw2 := SW_gs i8 hc2 sw1 (by omega) a'.1 c1
  have sv2 : SV (gsV (kpU v j) (oS j) p g) := SV_sl hj u1 u4 avo (by rw [u3]; exact sw2)
  have kp : ∀ y t, y < 300 → t < 6 → kpU v j (oS j + 4 + 6 * y + t) = v (oS j + 4 + 6 * y + t) := fun y t hy ht => by
    have := ku (4 + 6 * y + t) (by omega)
    rw [← Nat.add_assoc, ← Nat.add_assoc] at this
    exact this
  have ex2 : x2 = nI (v (oS j + 4 + 6 * p)) := a.2.1
  obtain ⟨d1, d2, d3, d4⟩ := sw.2.2.2.2.1 p a.1
  have pt4 := R_point h1 p3 (o := oS j) (by omega) e1 (p := p) (k := 4) (by omega) (by omega)
  rw [kp p 4 hp3 (by omega)] at pt4
  have cg2 : ∀ x, x < 49 → gsV (kpU v j) (oS j) p g x = v x := fun x hx => (avo x (by omega)).trans (kx x (by omega))
  obtain ⟨x1_, x2_, x3_, x4_⟩ := cX_cg cg2 i8
  have hc3 := okI_cg cg2 i8 hc
  have hq2 : ∀ a, a < 3 → q a < cB (cK (gsV (kpU v j) (oS j) p g) (v (oS j + 1))) ^ cL (gsV (kpU v j) (oS j) p g) (v (oS j + 1)) a := fun a ha => by rw [x1_, x3_ a ha]; exact hq a ha
  have i1 : gsV (kpU v j) (oS j) p g (oS j + 1) = v (oS j + 1) := (avo _ (by omega)).trans u3
  have sw2' := sw2
  obtain ⟨r1, r2, r3, r4, r5, r6⟩ := sw2
  have k2 := ku 2 (by omega)
  have fresh : ∀ y, y < gsV (kpU v j) (oS j) p g (oS j + 2) → gsV (kpU v j) (oS j) p g (oS j + 4 + 6 * y) ≠ v (oS j + 4 + 6 * p) := fun y hy => by
    rw [av2] at hy
    have z := avp y 0 hy (by omega)
    rw [Nat.add_zero] at z
    rw [z]
    by_cases c : y < p
    · rw [if_pos c, Nat.add_zero, show kpU v j (oS j + 4 + 6 * y) = v (oS j + 4 + 6 * y) from kp y 0 (by omega) (by omega)]
      exact (sw.2.2.2.2.2 y p c a.1).1
    · rw [if_neg c, Nat.add_zero, show kpU v j (oS j + 4 + 6 * (y + 1)) = v (oS j + 4 + 6 * (y + 1)) from kp (y + 1) 0 (by omega) (by omega)]
      exact fun z => (sw.2.2.2.2.2 p (y + 1) (by omega) (by omega)).1 z.symm
  obtain ⟨p', g', k, M3, b1, b2, b3, b4, b5, b6, b7, b8, b9, b10, b11⟩ := R_comes (o := oS j) (i := v (oS j + 1)) (nm := v (oS j + 4 + 6 * p)) (wt := v (oS j + 4 + 6 * p + 4)) (q := q) (by omega) (by omega) (by omega) (by omega) (fun _ => r3) (fun k hk => (r4 k hk).2) i1 i8 hc3 hq2 (by omega) (by omega) h2 c6 c7 e2
  have sw3 := SW_cm i8 hc3 sw2' (by omega) (by omega) b1 b2 b3 b4 (fun z => (b5 z).1) hq2 d1 d2 fresh
  refine ⟨q, g, p', g', k, M3, rfl, rfl, rfl, hq, ⟨c1, c2, c3⟩, ⟨b1, b2, b3, b4, b5, b6, b7⟩, ?_, (((fA f50).tr (FO.of p2)).tr (FO.of c5)).tr (FO.of b9), b10, b11, ?_⟩
  · rw [ep]
    simp only [z_rI, Option.bind_some]
    rw [if_neg (show ¬ nI 1 = 0 by decide +kernel)]
    rw [← ex2] at b8
    simp only [m_sel hA, Option.bind_some, p1, z_rV, m_sel h1, b', z_rI, pt4, z_rL, c4, m_sel h2, lN_i, b8]
  · have av := cmV_a (v := gsV (kpU v j) (oS j) p g) (o := oS j) (p := p') (g := g') (c := cP (v (oS j + 4 + 6 * p)) q (v (oS j + 4 + 6 * p + 4)) (npI (gsV (kpU v j) (oS j) p g) (v (oS j + 1)) q)) (by omega) (by omega) (by omega) b1 sw3.2
    have op : gsV (kpU v j) (oS j) p g (oS j) = 1 := (avo _ (by omega)).trans u4
    refine SV_sl hj sv2 op av.2.2.1 ?_
    rw [i1]; exact sw3.1
