/-! ===== THE REFERENCE: comes ===== -/
def cP (nm : Nat) (q : Nat → Nat) (wt N : Nat) (t : Nat) : Nat := if t = 0 then nm else if t = 1 then q 0 else if t = 2 then q 1 else if t = 3 then q 2 else if t = 4 then wt else N
theorem R_comes {v : Nat → Nat} {o i nm wt : Nat} {q : Nat → Nat} (ho : 1100 ≤ o ∧ o + 2110 ≤ 60180) (hm : v (o + 2) < 300) (hP : v (o + 3) ≤ 299) (h0 : v (o + 2) = 0 → v (o + 3) = 0) (hs : 0 < v (o + 2) → psm v o (v (o + 3)) = v (o + 2)) (hz : ∀ k, k < v (o + 3) → v (o + 1804 + k) ≤ 16) (ei : v (o + 1) = i) (hi : i < 8) (hc : okI v i) (hq : ∀ a, a < 3 → q a < cB (cK v i) ^ cL v i a) (hnm : nm < 2 ^ 31) (hwt : wt < 2 ^ 31) {w : Nat → Int32} {M : q_M} (h : SH M) (r : RI M v) (wi : WI M w) (eo : gI M 49 13 = nI o) : ∃ p g k M1, p ≤ v (o + 2) ∧ (∀ y, y < p → bef v o y (npI v i q) nm) ∧ (p < v (o + 2) → ¬ bef v o p (npI v i q) nm) ∧ (p = 0 → g = 0) ∧ (0 < p → g < v (o + 3) ∧ psm v o g ≤ p - 1 ∧ p - 1 < psm v o (g + 1)) ∧ psm (cmV v o p g (cP nm q wt (npI v i q))) o k ≤ p ∧ p < psm (cmV v o p g (cP nm q wt (npI v i q))) o (k + 1) ∧ q_CL 190 [.inr (.inr (some 49)), .inl (nI nm), .inl (nI (q 0)), .inl (nI (q 1)), .inl (nI (q 2)), .inl (nI wt)] M = some (some (.inl (nI k)), M1) ∧ FL f50 M M1 ∧ RI M1 (cmV v o p g (cP nm q wt (npI v i q))) ∧ WI M1 w := by
  have hN := npI_lt hc hq
  have c61 := cS_62 hc
  obtain ⟨M1, p1, p2⟩ := R_numOf h r hi hc hq
  have h1 := p2.sh h
  have r1 := p2.ri r
  have e1 : gI M1 49 13 = nI o := (p2.2.2.2 49 13 (by unfold scr; omega)).trans eo
  obtain ⟨p, c7, a1, a2, a3, a4⟩ := R_cm17 ho (by omega) (N := npI v i q) (nm := nm) (by omega) hnm (x2 := nI (q 0)) (x3 := nI (q 1)) (x4 := nI (q 2)) (x5 := nI wt) (d9 := none) (d10 := none) (d11 := none) h1 r1 e1 (v (o + 2)) 0 (by omega) (fun y hy => by omega) none
  have rm : ∀ a, a < 3 → q a < 2 ^ 31 := fun a ha => by
    have := hq a ha
    have := room_le hc ha
    omega
  have cok : (∀ t, t < 5 → cP nm q wt (npI v i q) t < 2 ^ 31) ∧ cP nm q wt (npI v i q) 5 < 2 ^ 62 := by
    refine ⟨fun t ht => ?_, by show npI v i q < 2 ^ 62; omega⟩
    rcases (show t = 0 ∨ t = 1 ∨ t = 2 ∨ t = 3 ∨ t = 4 by omega) with rfl | rfl | rfl | rfl | rfl
    · exact hnm
    · exact rm 0 (by omega)
    · exact rm 1 (by omega)
    · exact rm 2 (by omega)
    · exact hwt
  obtain ⟨g, M2, b1, b2, b3, b4, b5, b6⟩ := R_cm71 (p := p) ho hm a1 (by omega) h0 hs hz cok (d7 := c7) (d9 := none) (d10 := none) (d11 := none) h1 r1 (p2.wi wi) e1
  have h2 := b4.sh h1
  have e2 : gI M2 49 13 = nI o := (b4.2.2.2.1 49 13 (by unfold scr; omega)).trans e1
  have oth : ∀ x, x < o + 4 ∨ o + 1804 ≤ x → cmY (cm1 v o) (o + 4 + 6 * p) (o + 4 + 6 * v (o + 2)) x = cm1 v o x := fun x hx => by
    unfold cmY
    rw [if_neg (by omega)]
  have tot : g < cm1 v o (o + 3) ∧ cm1 v o (o + 3) ≤ 299 ∧ psm (cm1 v o) o (cm1 v o (o + 3)) = v (o + 2) := by
    by_cases m0 : v (o + 2) = 0
    · have ec : cm1 v o = pgC v o 0 0 := if_pos m0
      have P0 := h0 m0
      have e3 : cm1 v o (o + 3) = 1 := by rw [ec]; unfold pgC; rw [va_up_self, P0]
      have g0 := b1 (by omega)
      refine ⟨by omega, by omega, ?_⟩
      rw [e3, ec, psm_pgC 1 (by omega), if_neg (by omega), m0]
      rfl
    · have ec : cm1 v o = v := if_neg m0
      rw [ec]
      have hsm := hs (by omega)
      refine ⟨?_, hP, hsm⟩
      rcases Nat.eq_zero_or_pos p with z | z
      · rw [b1 z]
        rcases Nat.eq_zero_or_pos (v (o + 3)) with y | y
        · rw [y] at hsm
          have : v (o + 2) = 0 := hsm.symm
          omega
        · exact y
      · exact (b2 z).1
  have hT := psm_cmT (v := cmY (cm1 v o) (o + 4 + 6 * p) (o + 4 + 6 * v (o + 2))) (o := o) (a := o + 4 + 6 * p) (g := g) (c := cP nm q wt (npI v i q)) (by omega) (by rw [oth _ (by omega)]; exact tot.1)
  rw [oth (o + 3) (by omega), psm_cg (u := cm1 v o) (o := o) (cm1 v o (o + 3)) (fun j _ => oth _ (by omega)), tot.2.2] at hT
  have eV : cmV v o p g (cP nm q wt (npI v i q)) = cmT (cmY (cm1 v o) (o + 4 + 6 * p) (o + 4 + 6 * v (o + 2))) o (o + 4 + 6 * p) g (cP nm q wt (npI v i q)) := rfl
  rw [← eV] at hT
  obtain ⟨k, k1, k2, k3, k4⟩ := R_pgOf h2 b5 ho e2 (p := p) (P := cmV v o p g (cP nm q wt (npI v i q)) (o + 3)) (by have := hT.2; omega) (by rw [hT.1]; omega) (by rw [hT.1]; omega)
  refine ⟨p, g, k, M2, a1, a2, a3, b1, b2, k2, k3, ?_, (FL.of p2).tr b4, b5, b6⟩
  have cu := (R_fld h r ho eo).2.2
  rw [ei] at cu
  rw [C_X12_comes]
  simp only [m_sel h, Option.bind_some, cu, z_rI, p1, z_rL]
  rw [a4]
  refine Eq.trans b3 ?_
  rw [k4]
  rfl
