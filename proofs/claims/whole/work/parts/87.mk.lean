/-! ===== THE REFERENCE: a point comes, from its place on ===== -/
/-- a first page, if there is none -/
def cm1 (v : Nat → Nat) (o : Nat) : Nat → Nat := if v (o + 2) = 0 then pgC v o 0 0 else v
def cmV (v : Nat → Nat) (o p g : Nat) (c : Nat → Nat) : Nat → Nat := cmT (cmY (cm1 v o) (o + 4 + 6 * p) (o + 4 + 6 * v (o + 2))) o (o + 4 + 6 * p) g c
theorem pgC_2 {v : Nat → Nat} {o n : Nat} : pgC v o 0 n (o + 2) = v (o + 2) := by
  unfold pgC
  rw [va_up_ne _ _ (by omega), va_up_ne _ _ (by omega)]
  unfold pcY
  rw [if_neg (by omega)]
theorem R_cm71 {v : Nat → Nat} {o p : Nat} (ho : 1100 ≤ o ∧ o + 2110 ≤ 60180) (hm : v (o + 2) < 300) (hp : p ≤ v (o + 2)) (hP : v (o + 3) ≤ 300) (h0 : v (o + 2) = 0 → v (o + 3) = 0) (hs : 0 < v (o + 2) → psm v o (v (o + 3)) = v (o + 2)) (hz : ∀ k, k < v (o + 3) → v (o + 1804 + k) ≤ 16) {c : Nat → Nat} (hc : (∀ t, t < 5 → c t < 2 ^ 31) ∧ c 5 < 2 ^ 62) {d7 d9 d10 d11 : Option q_V} {w : Nat → Int32} {M : q_M} (h : SH M) (r : RI M v) (wi : WI M w) (eo : gI M 49 13 = nI o) : ∃ g M1, (p = 0 → g = 0) ∧ (0 < p → g < v (o + 3) ∧ psm v o g ≤ p - 1 ∧ p - 1 < psm v o (g + 1)) ∧ q_RL T_X12_comes (71, [some (.inr (.inr (some 49))), some (.inl (nI (c 0))), some (.inl (nI (c 1))), some (.inl (nI (c 2))), some (.inl (nI (c 3))), some (.inl (nI (c 4))), some (.inr (.inl (lN (c 5)))), d7, some (.inl (nI p)), d9, d10, d11], [], M) = ((q_rI (q_CL 186 [.inr (.inr (some 49)), .inl (nI p)] M1)).bind fun q => some (some (.inl q.1), q.2)) ∧ FL f50 M M1 ∧ RI M1 (cmV v o p g c) ∧ WI M1 w := by
  have fin : ∀ g M, SH M → RI M (cm1 v o) → WI M w → gI M 49 13 = nI o → g < cm1 v o (o + 3) → cm1 v o (o + 3) ≤ 300 → cm1 v o (o + 1804 + g) ≤ 16 → ∃ M1, q_RL T_X12_comes (135, [some (.inr (.inr (some 49))), some (.inl (nI (c 0))), some (.inl (nI (c 1))), some (.inl (nI (c 2))), some (.inl (nI (c 3))), some (.inl (nI (c 4))), some (.inr (.inl (lN (c 5)))), d7, some (.inl (nI p)), some (.inl (nI g)), some (.inl (nI (o + 4 + 6 * p))), some (.inl (nI (o + 4 + 6 * v (o + 2)) + (-1)))], [], M) = ((q_rI (q_CL 186 [.inr (.inr (some 49)), .inl (nI p)] M1)).bind fun q => some (some (.inl q.1), q.2)) ∧ FL f50 M M1 ∧ RI M1 (cmV v o p g c) ∧ WI M1 w := by
    intro g M h r wi eo hg hP1 hs1
    have ee : cmY (cm1 v o) (o + 4 + 6 * v (o + 2)) (o + 4 + 6 * v (o + 2)) = cm1 v o := by
      funext x
      unfold cmY
      rw [if_neg (by omega)]
    have m1 : cm1 v o (o + 2) = v (o + 2) := by
      unfold cm1
      by_cases e : v (o + 2) = 0
      · rw [if_pos e]; exact pgC_2
      · rw [if_neg e]
    have oth : ∀ x, x < o + 4 ∨ o + 1804 ≤ x → cmY (cm1 v o) (o + 4 + 6 * p) (o + 4 + 6 * v (o + 2)) x = cm1 v o x := fun x hx => by
      unfold cmY
      rw [if_neg (by omega)]
    obtain ⟨M1, p1, p2, p3, p4⟩ := R_cm135 (v := cm1 v o) (a := o + 4 + 6 * p) (e := o + 4 + 6 * v (o + 2)) (by omega) (by omega) (x1 := nI (c 0)) (x2 := nI (c 1)) (x3 := nI (c 2)) (x4 := nI (c 3)) (x5 := nI (c 4)) (x8 := nI p) (x9 := nI g) (l6 := lN (c 5)) (d7 := d7) (w := w) (6 * (v (o + 2) - p)) (o + 4 + 6 * v (o + 2)) (by omega) (Nat.le_refl _) M h (by rw [ee]; exact r) wi
    have e1 : gI M1 49 13 = nI o := (p2.2.2.2.1 49 13 (by unfold scr; omega)).trans eo
    obtain ⟨M2, u1, u2, u3, u4⟩ := R_cmT (v := cmY (cm1 v o) (o + 4 + 6 * p) (o + 4 + 6 * v (o + 2))) (o := o) (a := o + 4 + 6 * p) (g := g) ho (by omega) (by rw [oth _ (by omega), m1]; omega) (by rw [oth _ (by omega)]; exact hP1) (by rw [oth _ (by omega)]; exact hg) (by rw [oth _ (by omega)]; exact hs1) hc (x8 := nI p) (d7 := d7) (p2.sh h) p3 p4 e1
    exact ⟨M2, by rw [p1, u1], p2.tr u2, u3, u4⟩
  have ex : nI (o + 4 + 6 * v (o + 2)) - nI 1 = nI (o + 4 + 6 * v (o + 2)) + (-1) := by
    rw [pk_sub (by omega), ← pk_m1 (o + 4 + 6 * v (o + 2) - 1), show o + 4 + 6 * v (o + 2) - 1 + 1 = o + 4 + 6 * v (o + 2) by omega]
  rw [E_X12_comes_71]
  by_cases m0 : v (o + 2) = 0
  · have hp0 : p = 0 := by omega
    have P0 := h0 m0
    obtain ⟨M1, p1, p2, p3, p4⟩ := R_pgC (v := v) (k := 0) (n := 0) ho hP (by omega) (by omega) h r wi eo
    have h1 := p2.sh h
    have e1 : gI M1 49 13 = nI o := (p2.2.2.2.1 49 13 (by unfold scr; omega)).trans eo
    have ec : cm1 v o = pgC v o 0 0 := if_pos m0
    have e3 : cm1 v o (o + 3) = 1 := by rw [ec]; unfold pgC; rw [va_up_self, P0]
    have e4 : cm1 v o (o + 1804 + 0) = 0 := by rw [ec]; unfold pgC; rw [va_up_ne _ _ (by omega), va_up_self]
    have hh := (R_fld h1 p3 ho e1).1
    rw [pgC_2] at hh
    obtain ⟨M2, u1, u2, u3, u4⟩ := fin 0 M1 h1 (by rw [ec]; exact p3) p4 e1 (by omega) (by omega) (by omega)
    refine ⟨0, M2, fun _ => rfl, fun q => by omega, ?_, p2.tr u2, u3, u4⟩
    rw [if_pos (by rw [hp0]; exact nI_0)]
    simp only [m_sel h, Option.bind_some, (R_fld h r ho eo).1, z_rI]
    rw [if_pos (by rw [m0]; exact nI_0)]
    simp only [p1, z_rV, Option.bind_some, m_fI h1, e1, m_sel h1, hh, z_rI, pk_mul, nI_add, ex]
    exact u1
  · have ec : cm1 v o = v := if_neg m0
    have hsm := hs (by omega)
    have nz : ¬ nI (v (o + 2)) = 0 := nI_ne0 (by omega) (by omega)
    by_cases hp0 : p = 0
    · have P1 : 0 < v (o + 3) := by
        rcases Nat.eq_zero_or_pos (v (o + 3)) with q | q
        · rw [q] at hsm
          have : v (o + 2) = 0 := hsm.symm
          omega
        · exact q
      obtain ⟨M2, u1, u2, u3, u4⟩ := fin 0 M h (by rw [ec]; exact r) wi eo (by rw [ec]; exact P1) (by rw [ec]; exact hP) (by rw [ec]; exact hz 0 P1)
      refine ⟨0, M2, fun _ => rfl, fun q => by omega, ?_, u2, u3, u4⟩
      rw [if_pos (by rw [hp0]; exact nI_0)]
      simp only [m_sel h, Option.bind_some, (R_fld h r ho eo).1, z_rI]
      rw [if_neg nz]
      simp only [m_fI h, Option.bind_some, eo, m_sel h, (R_fld h r ho eo).1, z_rI, pk_mul, nI_add, ex]
      exact u1
    · obtain ⟨g, a1, a2, a3, a4⟩ := R_pgOf h r ho eo (p := p - 1) (P := v (o + 3)) hP (by omega) (by omega)
      obtain ⟨M2, u1, u2, u3, u4⟩ := fin g M h (by rw [ec]; exact r) wi eo (by rw [ec]; exact a1) (by rw [ec]; exact hP) (by rw [ec]; exact hz g a1)
      refine ⟨g, M2, fun q => absurd q hp0, fun _ => ⟨a1, a2, a3⟩, ?_, u2, u3, u4⟩
      rw [if_neg (nI_ne0 (by omega) (by omega)), pk_sub (show 1 ≤ p by omega)]
      simp only [m_sel h, Option.bind_some, a4, (R_fld h r ho eo).1, z_rI]
      rw [if_neg nz]
      simp only [m_fI h, Option.bind_some, eo, m_sel h, (R_fld h r ho eo).1, z_rI, pk_mul, nI_add, ex]
      exact u1
