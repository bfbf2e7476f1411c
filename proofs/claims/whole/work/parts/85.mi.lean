/-! ===== THE REFERENCE: pages come and go ===== -/
def pcY (v : Nat → Nat) (o y x : Nat) : Nat := if o + 1804 + y < x ∧ x ≤ o + 1804 + v (o + 3) then v (x - 1) else v x
/-- a page of n points comes at k -/
def pgC (v : Nat → Nat) (o k n : Nat) : Nat → Nat := va_up (va_up (pcY v o k) (o + 1804 + k) n) (o + 3) (v (o + 3) + 1)
theorem R_pgC {v : Nat → Nat} {o k n : Nat} (ho : 1100 ≤ o ∧ o + 2110 ≤ 60180) (hP : v (o + 3) ≤ 300) (hk : k ≤ v (o + 3)) (hn : n < 2 ^ 31) {w : Nat → Int32} {M : q_M} (h : SH M) (r : RI M v) (wi : WI M w) (eo : gI M 49 13 = nI o) : ∃ M1, q_CL 188 [.inr (.inr (some 49)), .inl (nI k), .inl (nI n)] M = some (none, M1) ∧ FL f50 M M1 ∧ RI M1 (pgC v o k n) ∧ WI M1 w := by
  rw [C_X12_pageComes]
  simp only [m_sel h, Option.bind_some, (R_fld h r ho eo).2.1, z_rI]
  have key : ∀ m y, y = k + m → y ≤ v (o + 3) → ∀ M, SH M → RI M (pcY v o y) → WI M w → gI M 49 13 = nI o → ∃ M1, q_RL T_X12_pageComes (5, [some (.inr (.inr (some 49))), some (.inl (nI k)), some (.inl (nI n)), some (.inl (nI y))], [], M) = some (none, M1) ∧ FL f50 M M1 ∧ RI M1 (pgC v o k n) ∧ WI M1 w := by
    intro m
    induction m with
    | zero =>
      intro y hy hyP M h r wi eo
      rw [Nat.add_zero] at hy
      rw [hy] at *
      have hA : SH (stL M 50 (o + 1804 + k) (lN n)) := h
      have rA := RI_up (k := o + 1804 + k) r (show n < 2 ^ 62 by omega)
      have e3 := rA (o + 3) (by omega) (by omega)
      have ev : va_up (pcY v o k) (o + 1804 + k) n (o + 3) = v (o + 3) := by
        rw [va_up_ne _ _ (by omega)]; unfold pcY; rw [if_neg (by omega)]
      rw [ev] at e3
      have eA : gI (stL M 50 (o + 1804 + k) (lN n)) 49 13 = nI o := eo
      refine ⟨stL (stL M 50 (o + 1804 + k) (lN n)) 50 (o + 3) (lN (v (o + 3) + 1)), ?_, ((FL.rf f50 M).st (show f50 50 from rfl)).st (show f50 50 from rfl), RI_up rA (by omega), WI_up (WI_up wi (by omega)) (by omega)⟩
      rw [E_X12_pageComes_5, if_pos (nI_le (by omega) (by omega))]
      simp only [m_s h, m_fI h, Option.bind_some, eo, nI_add, nI_l hn, m_bL h (show o + 1804 + k < 60190 by omega), m_s hA, m_fI hA, eA, m_aL hA (show o + 3 < 60190 by omega), e3.1, lN_add, m_bL hA (show o + 3 < 60190 by omega)]
    | succ m ih =>
      intro y hy hyP M h r wi eo
      obtain ⟨z, rfl⟩ : ∃ z, y = z + 1 := ⟨y - 1, by omega⟩
      have er : pcY v o (z + 1) (o + 1804 + z) = v (o + 1804 + z) := by unfold pcY; rw [if_neg (by omega)]
      have rr := r (o + 1804 + z) (by omega) (by omega)
      rw [er] at rr
      have en : pcY v o z = va_up (pcY v o (z + 1)) (o + 1804 + (z + 1)) (v (o + 1804 + z)) := by
        funext x
        by_cases ex : x = o + 1804 + (z + 1)
        · rw [ex, va_up_self]; unfold pcY; rw [if_pos (by omega), show o + 1804 + (z + 1) - 1 = o + 1804 + z by omega]
        · rw [va_up_ne _ _ ex]
          unfold pcY
          by_cases c : o + 1804 + (z + 1) < x ∧ x ≤ o + 1804 + v (o + 3)
          · rw [if_pos c, if_pos (by omega)]
          · rw [if_neg c, if_neg (by omega)]
      obtain ⟨M1, p1, p2, p3, p4⟩ := ih z (by omega) (by omega) (stL M 50 (o + 1804 + (z + 1)) (lN (v (o + 1804 + z)))) h (by rw [en]; exact RI_up r rr.2) (WI_up wi (by omega)) eo
      refine ⟨M1, ?_, ((FL.rf f50 M).st (show f50 50 from rfl)).tr p2, p3, p4⟩
      rw [E_X12_pageComes_5, if_neg (nI_ge (by omega) (by omega)), pk_m1]
      simp only [m_s h, m_fI h, Option.bind_some, eo, nI_add, pk_sub (show 1 ≤ o + 1804 + (z + 1) by omega), show o + 1804 + (z + 1) - 1 = o + 1804 + z by omega, m_aL h (show o + 1804 + z < 60190 by omega), rr.1, m_bL h (show o + 1804 + (z + 1) < 60190 by omega), p1]
  have e0 : pcY v o (v (o + 3)) = v := by
    funext x
    unfold pcY
    rw [if_neg (by omega)]
  exact key (v (o + 3) - k) (v (o + 3)) (by omega) (by omega) M h (by rw [e0]; exact r) wi eo
def pgY (v : Nat → Nat) (o k y x : Nat) : Nat := if o + 1804 + k ≤ x ∧ x < o + 1804 + y then v (x + 1) else v x
/-- page k goes -/
def pgG (v : Nat → Nat) (o k : Nat) : Nat → Nat := va_up (pgY v o k (v (o + 3) - 1)) (o + 3) (v (o + 3) - 1)
theorem R_pgG {v : Nat → Nat} {o k : Nat} (ho : 1100 ≤ o ∧ o + 2110 ≤ 60180) (hP : v (o + 3) ≤ 300) (hk : k < v (o + 3)) {w : Nat → Int32} {M : q_M} (h : SH M) (r : RI M v) (wi : WI M w) (eo : gI M 49 13 = nI o) : ∃ M1, q_CL 189 [.inr (.inr (some 49)), .inl (nI k)] M = some (none, M1) ∧ FL f50 M M1 ∧ RI M1 (pgG v o k) ∧ WI M1 w := by
  rw [C_X12_pageGoes]
  have key : ∀ m y, y + m + 1 = v (o + 3) → k ≤ y → ∀ M, SH M → RI M (pgY v o k y) → WI M w → gI M 49 13 = nI o → ∃ M1, q_RL T_X12_pageGoes (2, [some (.inr (.inr (some 49))), some (.inl (nI k)), some (.inl (nI y))], [], M) = some (none, M1) ∧ FL f50 M M1 ∧ RI M1 (pgG v o k) ∧ WI M1 w := by
    intro m
    induction m with
    | zero =>
      intro y hy hky M h r wi eo
      have ev : pgY v o k y (o + 3) = v (o + 3) := by unfold pgY; rw [if_neg (by omega)]
      have e3 := r (o + 3) (by omega) (by omega)
      have ep := (R_fld h r ho eo).2.1
      rw [ev] at e3 ep
      refine ⟨stL M 50 (o + 3) (lN (v (o + 3) - 1)), ?_, (FL.rf f50 M).st (show f50 50 from rfl), ?_, WI_up wi (by omega)⟩
      · rw [E_X12_pageGoes_2]
        simp only [m_sel h, Option.bind_some, ep, z_rI, nI_add]
        rw [if_pos (nI_le (by omega) (by omega))]
        simp only [m_s h, m_fI h, Option.bind_some, eo, nI_add, m_aL h (show o + 3 < 60190 by omega), e3.1, lN_sub (show 1 ≤ v (o + 3) by omega), m_bL h (show o + 3 < 60190 by omega)]
      · have := RI_up (k := o + 3) r (show v (o + 3) - 1 < 2 ^ 62 by omega)
        rw [show y = v (o + 3) - 1 by omega] at this
        exact this
    | succ m ih =>
      intro y hy hky M h r wi eo
      have ev : pgY v o k y (o + 3) = v (o + 3) := by unfold pgY; rw [if_neg (by omega)]
      have ep := (R_fld h r ho eo).2.1
      rw [ev] at ep
      have er : pgY v o k y (o + 1804 + y + 1) = v (o + 1804 + y + 1) := by unfold pgY; rw [if_neg (by omega)]
      have rr := r (o + 1804 + y + 1) (by omega) (by omega)
      rw [er] at rr
      have en : pgY v o k (y + 1) = va_up (pgY v o k y) (o + 1804 + y) (v (o + 1804 + y + 1)) := by
        funext x
        by_cases ex : x = o + 1804 + y
        · rw [ex, va_up_self]; unfold pgY; rw [if_pos (by omega)]
        · rw [va_up_ne _ _ ex]
          unfold pgY
          by_cases c : o + 1804 + k ≤ x ∧ x < o + 1804 + y
          · rw [if_pos c, if_pos (by omega)]
          · rw [if_neg c, if_neg (by omega)]
      obtain ⟨M1, p1, p2, p3, p4⟩ := ih (y + 1) (by omega) (by omega) (stL M 50 (o + 1804 + y) (lN (v (o + 1804 + y + 1)))) h (by rw [en]; exact RI_up r rr.2) (WI_up wi (by omega)) eo
      refine ⟨M1, ?_, ((FL.rf f50 M).st (show f50 50 from rfl)).tr p2, p3, p4⟩
      rw [E_X12_pageGoes_2]
      simp only [m_sel h, Option.bind_some, ep, z_rI, nI_add]
      rw [if_neg (nI_ge (by omega) (by omega))]
      simp only [m_s h, m_fI h, Option.bind_some, eo, nI_add, nI_1, m_aL h (show o + 1804 + y + 1 < 60190 by omega), rr.1, m_bL h (show o + 1804 + y < 60190 by omega), p1]
  have e0 : pgY v o k k = v := by
    funext x
    unfold pgY
    rw [if_neg (by omega)]
  exact key (v (o + 3) - 1 - k) k (by omega) (Nat.le_refl _) M h (by rw [e0]; exact r) wi eo
/-! undo, find -/
theorem kpD_c {v : Nat → Nat} {j : Nat} : kpD v j (60180 + j) = v (60180 + j) - 1 := va_up_self _ _ _
theorem R_undo {v : Nat → Nat} {w : Nat → Int32} {M : q_M} (h : SH M) (r : RI M v) (wi : WI M w) (x : Int32) : (¬ (∃ j, j < 4 ∧ x = nI j ∧ v (oS j) = 1 ∧ 1 ≤ v (60180 + j)) ∧ ∃ M1, q_CL 183 [.inr (.inr (some 49)), .inl x] M = some (some (.inl (-1)), M1) ∧ FO (fun _ => False) M M1) ∨ ∃ j M1, j < 4 ∧ x = nI j ∧ v (oS j) = 1 ∧ 1 ≤ v (60180 + j) ∧ q_CL 183 [.inr (.inr (some 49)), .inl x] M = some (some (.inl (nI (v (60180 + j) - 1))), M1) ∧ FO f50 M M1 ∧ RI M1 (kpD v j) ∧ WI M1 w := by
  rw [C_X12_undo]
  simp only [m_sel h, Option.bind_some]
  rcases R_opens h r x with ⟨hx, M1, e, f⟩ | ⟨j, hj, rfl, eo, e⟩
  · left
    refine ⟨fun ⟨j, a, b, c, _⟩ => hx ⟨j, a, b, c⟩, M1, ?_, f⟩
    rw [e]; rfl
  · rw [e]
    simp only [z_rI, Option.bind_some]
    rw [if_neg (show ¬ nI 1 = 0 by decide +kernel)]
    have hA : SH (stI M 49 13 (nI (oS j))) := h
    have rA : RI (stI M 49 13 (nI (oS j))) v := r
    have rk := r (60180 + j) (by omega) (by omega)
    simp only [m_s hA, Option.bind_some, nI_add, m_aL hA (show 60180 + j < 60190 by omega), gL_stI, rk.1, lg_cmp_eq, pk_lEQ (show v (60180 + j) < 2 ^ 63 by omega) (show 0 < 2 ^ 63 by omega)]
    by_cases e0 : v (60180 + j) = 0
    · left
      refine ⟨?_, _, if_pos e0, (FO.rf _ M).sO⟩
      rintro ⟨j2, hj2, e2, _, e4⟩
      have : j = j2 := (nI_eq (by omega) (by omega)).mp e2
      subst this
      omega
    · right
      obtain ⟨M1, p1, p2, p3, p4⟩ := R_kp0 hj (show 1 ≤ v (60180 + j) by omega) hA rA wi
      have h1 := p2.sh hA
      have r1 := p3 (60180 + j) (by omega) (by omega)
      rw [kpD_c] at r1
      refine ⟨j, M1, hj, rfl, eo, by omega, ?_, ((FO.rf f50 M).sO).tr (FO.of p2), p3, p4⟩
      rw [if_neg e0]
      simp only [m_sel hA, Option.bind_some, p1, z_rV, m_s h1, nI_add, m_aL h1 (show 60180 + j < 60190 by omega), r1.1, lN_i]
