/-! ===== THE REFERENCE: pages; the past ===== -/
def psm (v : Nat → Nat) (o : Nat) : Nat → Nat
  | 0 => 0
  | k + 1 => psm v o k + v (o + 1804 + k)
theorem psm_mono (v : Nat → Nat) (o k : Nat) : ∀ n, psm v o k ≤ psm v o (k + n)
  | 0 => Nat.le_refl _
  | n + 1 => Nat.le_trans (psm_mono v o k n) (Nat.le_add_right _ _)
theorem R_beg {v : Nat → Nat} {M : q_M} (h : SH M) (r : RI M v) {o : Nat} (ho : 1100 ≤ o ∧ o + 2110 ≤ 60180) (eo : gI M 49 13 = nI o) {p : Nat} (hp : p ≤ 300) : q_CL 187 [.inr (.inr (some 49)), .inl (nI p)] M = some (some (.inl (nI (psm v o p))), M) := by
  rw [C_X12_beginOf]
  have key : ∀ n k, k + n = p → q_RL T_X12_beginOf (4, [some (.inr (.inr (some 49))), some (.inl (nI p)), some (.inl (nI (psm v o k))), some (.inl (nI k))], [], M) = some (some (.inl (nI (psm v o p))), M) := by
    intro n
    induction n with
    | zero =>
      intro k hk
      rw [E_X12_beginOf_4, if_pos (nI_le (by omega) (by omega)), show k = p by omega]
    | succ n ih =>
      intro k hk
      rw [E_X12_beginOf_4, if_neg (nI_ge (by omega) (by omega))]
      simp only [m_sel h, Option.bind_some, R_onP h r ho eo (show k ≤ 305 by omega), z_rI, nI_add, nI_1]
      exact ih (k + 1) (by omega)
  exact key p 0 (by omega)
theorem R_pgOf {v : Nat → Nat} {M : q_M} (h : SH M) (r : RI M v) {o : Nat} (ho : 1100 ≤ o ∧ o + 2110 ≤ 60180) (eo : gI M 49 13 = nI o) {p P : Nat} (hP : P ≤ 300) (hb : psm v o P < 2 ^ 31) (hp : p < psm v o P) : ∃ k, k < P ∧ psm v o k ≤ p ∧ p < psm v o (k + 1) ∧ q_CL 186 [.inr (.inr (some 49)), .inl (nI p)] M = some (some (.inl (nI k)), M) := by
  rw [C_X12_pageOf]
  have key : ∀ n k, k + n + 1 = P → psm v o k ≤ p → ∃ k2, k2 < P ∧ psm v o k2 ≤ p ∧ p < psm v o (k2 + 1) ∧ q_RL T_X12_pageOf (8, [some (.inr (.inr (some 49))), some (.inl (nI p)), some (.inl (nI k)), some (.inl (nI (psm v o (k + 1))))], [], M) = some (some (.inl (nI k2)), M) := by
    intro n
    induction n with
    | zero =>
      intro k hk hq
      have e : k + 1 = P := by omega
      refine ⟨k, by omega, hq, by rw [e]; exact hp, ?_⟩
      rw [E_X12_pageOf_8, if_pos (nI_lt (by rw [e]; exact hp) (by rw [e]; exact hb))]
    | succ n ih =>
      intro k hk hq
      have m1 := psm_mono v o (k + 1) (P - (k + 1))
      rw [show k + 1 + (P - (k + 1)) = P by omega] at m1
      by_cases e : p < psm v o (k + 1)
      · refine ⟨k, by omega, hq, e, ?_⟩
        rw [E_X12_pageOf_8, if_pos (nI_lt e (by omega))]
      · obtain ⟨k2, a1, a2, a3, a4⟩ := ih (k + 1) (by omega) (by omega)
        refine ⟨k2, a1, a2, a3, ?_⟩
        rw [E_X12_pageOf_8, if_neg (nI_nlt (by omega) (by omega)), nI_1]
        simp only [m_sel h, Option.bind_some, R_onP h r ho eo (show k + 1 ≤ 305 by omega), z_rI, nI_add]
        exact a4
  have P0 : 0 < P := by
    rcases Nat.eq_zero_or_pos P with q | q
    · rw [q] at hp; exact absurd hp (Nat.not_lt_zero _)
    · exact q
  obtain ⟨k, a1, a2, a3, a4⟩ := key (P - 1) 0 (by omega) (Nat.zero_le _)
  refine ⟨k, a1, a2, a3, ?_⟩
  have e0 := R_onP h r ho eo (k := 0) (by omega)
  simp only [m_sel h, Option.bind_some, e0, z_rI]
  rw [show psm v o (0 + 1) = v (o + 1804 + 0) from Nat.zero_add _] at a4
  exact a4
/-! the past of a shelf -/
def kpy (v : Nat → Nat) (o y x : Nat) : Nat := if o + y ≤ x ∧ x < o + 14770 then v (x - 2110) else v x
def kpz (v : Nat → Nat) (o y x : Nat) : Nat := if o ≤ x ∧ x < o + y then v (x + 2110) else v x
/-- one step more is kept -/
def kpU (v : Nat → Nat) (j : Nat) : Nat → Nat := va_up (kpy v (oS j) 2110) (60180 + j) (if 6 ≤ v (60180 + j) then v (60180 + j) else v (60180 + j) + 1)
/-- one step back -/
def kpD (v : Nat → Nat) (j : Nat) : Nat → Nat := va_up (kpz v (oS j) 12660) (60180 + j) (v (60180 + j) - 1)
theorem R_kp1 {v : Nat → Nat} {j : Nat} (hj : j < 4) {x2 : Int32} (hx : ¬ x2 = 0) {w : Nat → Int32} {M : q_M} (h : SH M) (r : RI M v) (wi : WI M w) : ∃ M1, q_CL 182 [.inr (.inr (some 49)), .inl (nI j), .inl x2] M = some (none, M1) ∧ FL f50 M M1 ∧ RI M1 (kpU v j) ∧ WI M1 w := by
  have ob := oS_b hj
  rw [C_X12_keeps, if_neg hx, pk_mul, pk_mul, nI_add, show 1100 + 7 * j * 2110 = oS j from rfl]
  have key : ∀ n y, y = 2110 + n → y ≤ 14770 → ∀ M, SH M → RI M (kpy v (oS j) y) → WI M w → ∃ M1, q_RL T_X12_keeps (22, [some (.inr (.inr (some 49))), some (.inl (nI j)), some (.inl x2), some (.inl (nI (oS j))), some (.inl (nI y + (-1)))], [], M) = some (none, M1) ∧ FL f50 M M1 ∧ RI M1 (kpU v j) ∧ WI M1 w := by
    intro n
    induction n with
    | zero =>
      intro y hy hy2 M h r wi
      rw [show y = 2109 + 1 by omega] at *
      have ek : kpy v (oS j) (2109 + 1) (60180 + j) = v (60180 + j) := by unfold kpy; rw [if_neg (by omega)]
      have rk := r (60180 + j) (by omega) (by omega)
      rw [ek] at rk
      rw [E_X12_keeps_22, pk_m1, if_pos (nI_lt (by omega) (by omega))]
      simp only [m_s h, Option.bind_some, nI_add, m_aL h (show 60180 + j < 60190 by omega), rk.1, lg_cmp_ge, pk_lLE (show 6 < 2 ^ 63 by omega) (show v (60180 + j) < 2 ^ 63 by omega), lN_add, m_bL h (show 60180 + j < 60190 by omega)]
      by_cases e : 6 ≤ v (60180 + j)
      · refine ⟨M, if_pos e, FL.rf _ M, ?_, wi⟩
        have e2 : kpU v j = kpy v (oS j) (2109 + 1) := by
          funext x
          unfold kpU
          by_cases ex : x = 60180 + j
          · rw [ex, va_up_self, if_pos e, ek]
          · rw [va_up_ne _ _ ex]
        rw [e2]; exact r
      · refine ⟨_, if_neg e, (FL.rf f50 M).st (show f50 50 from rfl), ?_, WI_up wi (by omega)⟩
        have := RI_up (k := 60180 + j) r (show v (60180 + j) + 1 < 2 ^ 62 by omega)
        unfold kpU
        rw [if_neg e]
        exact this
    | succ n ih =>
      intro y hy hy2 M h r wi
      obtain ⟨z, rfl⟩ : ∃ z, y = z + 1 := ⟨y - 1, by omega⟩
      have er : kpy v (oS j) (z + 1) (oS j + z - 2110) = v (oS j + z - 2110) := by unfold kpy; rw [if_neg (by omega)]
      have rr := r (oS j + z - 2110) (by omega) (by omega)
      rw [er] at rr
      have en : kpy v (oS j) z = va_up (kpy v (oS j) (z + 1)) (oS j + z) (v (oS j + z - 2110)) := by
        funext x
        by_cases ex : x = oS j + z
        · rw [ex, va_up_self]; unfold kpy; rw [if_pos (by omega)]
        · rw [va_up_ne _ _ ex]
          unfold kpy
          by_cases c : oS j + (z + 1) ≤ x ∧ x < oS j + 14770
          · rw [if_pos c, if_pos (by omega)]
          · rw [if_neg c, if_neg (by omega)]
      obtain ⟨M1, p1, p2, p3, p4⟩ := ih z (by omega) (by omega) (stL M 50 (oS j + z) (lN (v (oS j + z - 2110)))) h (by rw [en]; exact RI_up r rr.2) (WI_up wi (by omega))
      refine ⟨M1, ?_, ((FL.rf f50 M).st (show f50 50 from rfl)).tr p2, p3, p4⟩
      rw [E_X12_keeps_22, pk_m1, if_neg (nI_nlt (by omega) (by omega))]
      simp only [m_s h, Option.bind_some, nI_add, pk_sub (show 2110 ≤ oS j + z by omega), m_aL h (show oS j + z - 2110 < 60190 by omega), rr.1, m_bL h (show oS j + z < 60190 by omega), p1]
  have e0 : kpy v (oS j) 14770 = v := by
    funext x
    unfold kpy
    rw [if_neg (by omega)]
  have := key 12660 14770 (by omega) (by omega) M h (by rw [e0]; exact r) wi
  rw [show nI 14770 + (-1) = nI 14769 from pk_m1 14769] at this
  exact this
theorem R_kp0 {v : Nat → Nat} {j : Nat} (hj : j < 4) (h1 : 1 ≤ v (60180 + j)) {w : Nat → Int32} {M : q_M} (h : SH M) (r : RI M v) (wi : WI M w) : ∃ M1, q_CL 182 [.inr (.inr (some 49)), .inl (nI j), .inl (nI 0)] M = some (none, M1) ∧ FL f50 M M1 ∧ RI M1 (kpD v j) ∧ WI M1 w := by
  have ob := oS_b hj
  rw [C_X12_keeps, if_pos nI_0, pk_mul, pk_mul, nI_add, show 1100 + 7 * j * 2110 = oS j from rfl]
  have key : ∀ n y, y + n = 12660 → ∀ M, SH M → RI M (kpz v (oS j) y) → WI M w → ∃ M1, q_RL T_X12_keeps (93, [some (.inr (.inr (some 49))), some (.inl (nI j)), some (.inl (nI 0)), some (.inl (nI (oS j))), some (.inl (nI y))], [], M) = some (none, M1) ∧ FL f50 M M1 ∧ RI M1 (kpD v j) ∧ WI M1 w := by
    intro n
    induction n with
    | zero =>
      intro y hy M h r wi
      have ek : kpz v (oS j) y (60180 + j) = v (60180 + j) := by unfold kpz; rw [if_neg (by omega)]
      have rk := r (60180 + j) (by omega) (by omega)
      rw [ek] at rk
      refine ⟨stL M 50 (60180 + j) (lN (v (60180 + j) - 1)), ?_, (FL.rf f50 M).st (show f50 50 from rfl), ?_, WI_up wi (by omega)⟩
      · rw [E_X12_keeps_93, if_pos (nI_le (by omega) (by omega))]
        simp only [m_s h, Option.bind_some, nI_add, m_aL h (show 60180 + j < 60190 by omega), rk.1, lN_sub h1, m_bL h (show 60180 + j < 60190 by omega)]
      · have := RI_up (k := 60180 + j) r (show v (60180 + j) - 1 < 2 ^ 62 by omega)
        rw [show y = 12660 by omega] at this
        exact this
    | succ n ih =>
      intro y hy M h r wi
      have er : kpz v (oS j) y (oS j + y + 2110) = v (oS j + y + 2110) := by unfold kpz; rw [if_neg (by omega)]
      have rr := r (oS j + y + 2110) (by omega) (by omega)
      rw [er] at rr
      have en : kpz v (oS j) (y + 1) = va_up (kpz v (oS j) y) (oS j + y) (v (oS j + y + 2110)) := by
        funext x
        by_cases ex : x = oS j + y
        · rw [ex, va_up_self]; unfold kpz; rw [if_pos (by omega)]
        · rw [va_up_ne _ _ ex]
          unfold kpz
          by_cases c : oS j ≤ x ∧ x < oS j + y
          · rw [if_pos c, if_pos (by omega)]
          · rw [if_neg c, if_neg (by omega)]
      obtain ⟨M1, p1, p2, p3, p4⟩ := ih (y + 1) (by omega) (stL M 50 (oS j + y) (lN (v (oS j + y + 2110)))) h (by rw [en]; exact RI_up r rr.2) (WI_up wi (by omega))
      refine ⟨M1, ?_, ((FL.rf f50 M).st (show f50 50 from rfl)).tr p2, p3, p4⟩
      rw [E_X12_keeps_93, if_neg (nI_ge (by omega) (by omega))]
      simp only [m_s h, Option.bind_some, nI_add, nI_1, m_aL h (show oS j + y + 2110 < 60190 by omega), rr.1, m_bL h (show oS j + y < 60190 by omega), p1]
  have e0 : kpz v (oS j) 0 = v := by
    funext x
    unfold kpz
    rw [if_neg (by omega)]
  exact key 12660 0 (by omega) M h (by rw [e0]; exact r) wi
