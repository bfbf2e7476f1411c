/-! ===== THE REFERENCE: shelf, find ===== -/
/-- shelf j lies on curve i, empty -/
def shV (v : Nat → Nat) (j i : Nat) : Nat → Nat := va_up (va_up (va_up (va_up (va_up v (oS j) 1) (oS j + 1) i) (oS j + 2) 0) (oS j + 3) 0) (60180 + j) 0
theorem R_shelf {v : Nat → Nat} (wc : WC v) {w : Nat → Int32} {M : q_M} (h : SH M) (r : RI M v) (wi : WI M w) (x y : Int32) : (¬ (∃ j i, j < 4 ∧ x = nI j ∧ i < v 0 ∧ y = nI i) ∧ q_CL 181 [.inr (.inr (some 49)), .inl x, .inl y] M = some (some (.inl (nI 0)), M)) ∨ ∃ j i M1, j < 4 ∧ x = nI j ∧ i < v 0 ∧ y = nI i ∧ q_CL 181 [.inr (.inr (some 49)), .inl x, .inl y] M = some (some (.inl (nI 1)), M1) ∧ FO f50 M M1 ∧ RI M1 (shV v j i) ∧ WI M1 w := by
  have w0 := wc.1
  have t0 : nI 0 = 0 ∨ nI 0 = 1 := Or.inl rfl
  have t1 : nI 1 = 0 ∨ nI 1 = 1 := Or.inr rfl
  have f : f50 50 := rfl
  rw [C_X12_shelf]
  simp only [if_pos t0, if_pos t1, m_sel h, Option.bind_some]
  rcases pk_ix x (show 4 < 2 ^ 31 by omega) with hx | hx | ⟨j, hj, rfl⟩
  · left
    refine ⟨?_, if_pos hx⟩
    rintro ⟨j, i, hj, rfl, _⟩
    exact nI_pos (by omega) hx
  · left
    refine ⟨?_, ?_⟩
    · rintro ⟨j, i, hj, rfl, _⟩
      exact nI_ge hj (by omega) hx
    · by_cases h0 : x < 0
      · rw [if_pos h0]
      · rw [if_neg h0, if_pos]
        have a1 : (nI 4).toInt ≤ x.toInt := Int32.le_iff_toInt_le.mp hx
        rw [Int32.lt_iff_toInt_lt]
        rw [nI_toInt (by omega)] at a1 ⊢
        omega
  · rw [if_neg (nI_pos (by omega)), if_neg (nI_nlt (by omega) (by omega))]
    rcases R_isC h r wc y with ⟨hy, e⟩ | ⟨i, hi, rfl, e⟩
    · left
      refine ⟨fun ⟨_, i, _, _, a, b⟩ => hy ⟨i, a, b⟩, ?_⟩
      rw [e]; rfl
    · right
      have ob := oS_b hj
      rw [e]
      simp only [z_rI, Option.bind_some]
      rw [if_neg (show ¬ nI 1 = 0 by decide +kernel)]
      have h1 : SH (stI M 49 13 (nI (oS j))) := h
      have h2 : SH (stL (stI M 49 13 (nI (oS j))) 50 (oS j) (lN 1)) := h
      have h3 : SH (stL (stL (stI M 49 13 (nI (oS j))) 50 (oS j) (lN 1)) 50 (oS j + 1) (lN i)) := h
      have h4 : SH (stL (stL (stL (stI M 49 13 (nI (oS j))) 50 (oS j) (lN 1)) 50 (oS j + 1) (lN i)) 50 (oS j + 2) (lN 0)) := h
      have h5 : SH (stL (stL (stL (stL (stI M 49 13 (nI (oS j))) 50 (oS j) (lN 1)) 50 (oS j + 1) (lN i)) 50 (oS j + 2) (lN 0)) 50 (oS j + 3) (lN 0)) := h
      refine ⟨j, i, stL (stL (stL (stL (stL (stI M 49 13 (nI (oS j))) 50 (oS j) (lN 1)) 50 (oS j + 1) (lN i)) 50 (oS j + 2) (lN 0)) 50 (oS j + 3) (lN 0)) 50 (60180 + j) (lN 0), hj, rfl, hi, rfl, ?_, ((((((FO.rf f50 M).sO).st f).st f).st f).st f).st f, ?_, ?_⟩
      · simp only [pk_mul, nI_add, show 1100 + 7 * j * 2110 = oS j from rfl, m_sI h, Option.bind_some, m_s h1, m_fI h1, gI_self, gI_stL, m_bL h1 (show oS j < 60190 by omega), m_s h2, m_fI h2, nI_l (show i < 2 ^ 31 by omega), m_bL h2 (show oS j + 1 < 60190 by omega), m_s h3, m_fI h3, m_bL h3 (show oS j + 2 < 60190 by omega), m_s h4, m_fI h4, m_bL h4 (show oS j + 3 < 60190 by omega), m_s h5, m_bL h5 (show 60180 + j < 60190 by omega)]
      · have r0 : RI (stI M 49 13 (nI (oS j))) v := r
        exact RI_up (RI_up (RI_up (RI_up (RI_up r0 (by omega)) (by omega)) (by omega)) (by omega)) (by omega)
      · have wi0 : WI (stI M 49 13 (nI (oS j))) w := wi
        exact WI_up (WI_up (WI_up (WI_up (WI_up wi0 (by omega)) (by omega)) (by omega)) (by omega)) (by omega)
