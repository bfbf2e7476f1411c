/-! ===== THE REFERENCE: a point's place ===== -/
theorem E17f (M : q_M) (x1 x2 x3 x4 x5 : Int32) (l6 : Int64) (d7 : Option q_V) (x8 : Int32) (d9 d10 d11 : Option q_V) : q_RL T_X12_comes (17, [some (.inr (.inr (some 49))), some (.inl x1), some (.inl x2), some (.inl x3), some (.inl x4), some (.inl x5), some (.inr (.inl l6)), d7, some (.inl x8), d9, d10, d11], [], M) = (q_sel M [(12, 176)] 49).bind fun y1 => (q_rI (q_CL y1 [.inr (.inr (some 49))] M)).bind fun q2 => if q2.1 ≤ x8 then q_RL T_X12_comes (71, [some (.inr (.inr (some 49))), some (.inl x1), some (.inl x2), some (.inl x3), some (.inl x4), some (.inl x5), some (.inr (.inl l6)), d7, some (.inl x8), d9, d10, d11], [], q2.2) else (q_sel q2.2 [(12, 179)] 49).bind fun y29 => (q_rL (q_CL y29 [.inr (.inr (some 49)), .inl x8, .inl (nI 5)] q2.2)).bind fun q30 => if (lg_cmp q30.1 l6) < 0 then q_RL T_X12_comes (17, [some (.inr (.inr (some 49))), some (.inl x1), some (.inl x2), some (.inl x3), some (.inl x4), some (.inl x5), some (.inr (.inl l6)), (q_kill d7), some (.inl (x8 + 1)), d9, d10, d11], [], q30.2) else (q_sel q30.2 [(12, 179)] 49).bind fun y31 => (q_rL (q_CL y31 [.inr (.inr (some 49)), .inl x8, .inl (nI 5)] q30.2)).bind fun q32 => if (lg_cmp q32.1 l6) = 0 then (q_sel q32.2 [(12, 179)] 49).bind fun y59 => (q_rL (q_CL y59 [.inr (.inr (some 49)), .inl x8, .inl (nI 0)] q32.2)).bind fun q60 => if 0 ≤ (lg_cmp q60.1 (Int32.toInt64 x1)) then q_RL T_X12_comes (71, [some (.inr (.inr (some 49))), some (.inl x1), some (.inl x2), some (.inl x3), some (.inl x4), some (.inl x5), some (.inr (.inl l6)), d7, some (.inl x8), d9, d10, d11], [], q60.2) else q_RL T_X12_comes (17, [some (.inr (.inr (some 49))), some (.inl x1), some (.inl x2), some (.inl x3), some (.inl x4), some (.inl x5), some (.inr (.inl l6)), (q_kill d7), some (.inl (x8 + 1)), d9, d10, d11], [], q60.2) else q_RL T_X12_comes (71, [some (.inr (.inr (some 49))), some (.inl x1), some (.inl x2), some (.inl x3), some (.inl x4), some (.inl x5), some (.inr (.inl l6)), d7, some (.inl x8), d9, d10, d11], [], q32.2) := by
  rw [E_X12_comes_17]
  simp only [E_X12_comes_71]
/-- point p lies before number N and name m -/
def bef (v : Nat → Nat) (o p N m : Nat) : Prop := v (o + 4 + 6 * p + 5) < N ∨ (v (o + 4 + 6 * p + 5) = N ∧ v (o + 4 + 6 * p) < m)
theorem R_cm17 {v : Nat → Nat} {o : Nat} (ho : 1100 ≤ o ∧ o + 2110 ≤ 60180) (hm : v (o + 2) ≤ 300) {N nm : Nat} (hN : N < 2 ^ 62) (hnm : nm < 2 ^ 31) {x2 x3 x4 x5 : Int32} {d9 d10 d11 : Option q_V} {M : q_M} (h : SH M) (r : RI M v) (eo : gI M 49 13 = nI o) : ∀ n p, p + n = v (o + 2) → (∀ q, q < p → bef v o q N nm) → ∀ d7, ∃ p2 c7, p2 ≤ v (o + 2) ∧ (∀ q, q < p2 → bef v o q N nm) ∧ (p2 < v (o + 2) → ¬ bef v o p2 N nm) ∧ q_RL T_X12_comes (17, [some (.inr (.inr (some 49))), some (.inl (nI nm)), some (.inl x2), some (.inl x3), some (.inl x4), some (.inl x5), some (.inr (.inl (lN N))), d7, some (.inl (nI p)), d9, d10, d11], [], M) = q_RL T_X12_comes (71, [some (.inr (.inr (some 49))), some (.inl (nI nm)), some (.inl x2), some (.inl x3), some (.inl x4), some (.inl x5), some (.inr (.inl (lN N))), c7, some (.inl (nI p2)), d9, d10, d11], [], M) := by
  intro n
  induction n with
  | zero =>
    intro p hp q d7
    refine ⟨p, d7, by omega, q, fun hq => by omega, ?_⟩
    rw [E17f]
    simp only [m_sel h, Option.bind_some, (R_fld h r ho eo).1, z_rI]
    rw [if_pos (nI_le (by omega) (by omega))]
  | succ n ih =>
    intro p hp q d7
    have r5 := (r (o + 4 + 6 * p + 5) (by omega) (by omega)).2
    have r0 := (r (o + 4 + 6 * p) (by omega) (by omega)).2
    have e5 := R_point h r ho eo (p := p) (k := 5) (by omega) (by omega)
    have e0 := R_point h r ho eo (p := p) (k := 0) (by omega) (by omega)
    rw [Nat.add_zero] at e0
    have ev : q_RL T_X12_comes (17, [some (.inr (.inr (some 49))), some (.inl (nI nm)), some (.inl x2), some (.inl x3), some (.inl x4), some (.inl x5), some (.inr (.inl (lN N))), d7, some (.inl (nI p)), d9, d10, d11], [], M) = if v (o + 4 + 6 * p + 5) < N then q_RL T_X12_comes (17, [some (.inr (.inr (some 49))), some (.inl (nI nm)), some (.inl x2), some (.inl x3), some (.inl x4), some (.inl x5), some (.inr (.inl (lN N))), (q_kill d7), some (.inl (nI (p + 1))), d9, d10, d11], [], M) else if v (o + 4 + 6 * p + 5) = N then (if nm ≤ v (o + 4 + 6 * p) then q_RL T_X12_comes (71, [some (.inr (.inr (some 49))), some (.inl (nI nm)), some (.inl x2), some (.inl x3), some (.inl x4), some (.inl x5), some (.inr (.inl (lN N))), d7, some (.inl (nI p)), d9, d10, d11], [], M) else q_RL T_X12_comes (17, [some (.inr (.inr (some 49))), some (.inl (nI nm)), some (.inl x2), some (.inl x3), some (.inl x4), some (.inl x5), some (.inr (.inl (lN N))), (q_kill d7), some (.inl (nI (p + 1))), d9, d10, d11], [], M)) else q_RL T_X12_comes (71, [some (.inr (.inr (some 49))), some (.inl (nI nm)), some (.inl x2), some (.inl x3), some (.inl x4), some (.inl x5), some (.inr (.inl (lN N))), d7, some (.inl (nI p)), d9, d10, d11], [], M) := by
      rw [E17f]
      simp only [m_sel h, Option.bind_some, (R_fld h r ho eo).1, z_rI, e5, e0, z_rL, nI_1, lg_cmp_lt, lg_cmp_eq, lg_cmp_ge, nI_l hnm, pk_lLT (show v (o + 4 + 6 * p + 5) < 2 ^ 63 by omega) (show N < 2 ^ 63 by omega), pk_lEQ (show v (o + 4 + 6 * p + 5) < 2 ^ 63 by omega) (show N < 2 ^ 63 by omega), pk_lLE (show nm < 2 ^ 63 by omega) (show v (o + 4 + 6 * p) < 2 ^ 63 by omega)]
      rw [if_neg (nI_ge (by omega) (by omega))]
    have go : bef v o p N nm → ∃ p2 c7, p2 ≤ v (o + 2) ∧ (∀ q, q < p2 → bef v o q N nm) ∧ (p2 < v (o + 2) → ¬ bef v o p2 N nm) ∧ q_RL T_X12_comes (17, [some (.inr (.inr (some 49))), some (.inl (nI nm)), some (.inl x2), some (.inl x3), some (.inl x4), some (.inl x5), some (.inr (.inl (lN N))), (q_kill d7), some (.inl (nI (p + 1))), d9, d10, d11], [], M) = q_RL T_X12_comes (71, [some (.inr (.inr (some 49))), some (.inl (nI nm)), some (.inl x2), some (.inl x3), some (.inl x4), some (.inl x5), some (.inr (.inl (lN N))), c7, some (.inl (nI p2)), d9, d10, d11], [], M) := fun b => ih (p + 1) (by omega) (fun y hy => by
      by_cases ey : y = p
      · rw [ey]; exact b
      · exact q y (by omega)) (q_kill d7)
    rw [ev]
    by_cases a1 : v (o + 4 + 6 * p + 5) < N
    · rw [if_pos a1]; exact go (Or.inl a1)
    · rw [if_neg a1]
      by_cases a2 : v (o + 4 + 6 * p + 5) = N
      · rw [if_pos a2]
        by_cases a3 : nm ≤ v (o + 4 + 6 * p)
        · rw [if_pos a3]
          exact ⟨p, d7, by omega, q, fun _ b => by rcases b with b | b <;> omega, rfl⟩
        · rw [if_neg a3]; exact go (Or.inr ⟨a2, by omega⟩)
      · rw [if_neg a2]
        exact ⟨p, d7, by omega, q, fun _ b => by rcases b with b | b <;> omega, rfl⟩
