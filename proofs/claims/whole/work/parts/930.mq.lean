/-! ===== THE REFERENCE: a point goes ===== -/
def gsY (v : Nat → Nat) (a y x : Nat) : Nat := if a ≤ x ∧ x < y then v (x + 6) else v x
def gs1 (v : Nat → Nat) (o p g : Nat) : Nat → Nat := va_up (va_up (gsY v (o + 4 + 6 * p) (o + 4 + 6 * v (o + 2) - 6)) (o + 2) (v (o + 2) - 1)) (o + 1804 + g) (v (o + 1804 + g) - 1)
/-- page g of u, once it has a point less -/
def gsT (u : Nat → Nat) (o g : Nat) : Nat → Nat := if u (o + 1804 + g) = 0 then pgG u o g else if g + 1 < u (o + 3) ∧ u (o + 1804 + g) + u (o + 1804 + (g + 1)) ≤ 10 then pgG (va_up u (o + 1804 + g) (u (o + 1804 + g) + u (o + 1804 + (g + 1)))) o (g + 1) else if 0 < g ∧ u (o + 1804 + (g - 1)) + u (o + 1804 + g) ≤ 10 then pgG (va_up u (o + 1804 + g - 1) (u (o + 1804 + (g - 1)) + u (o + 1804 + g))) o g else u
def gsV (v : Nat → Nat) (o p g : Nat) : Nat → Nat := gsT (gs1 v o p g) o g
/-- the last choice: the page ahead -/
theorem R_gs180 {u : Nat → Nat} {o g : Nat} (ho : 1100 ≤ o ∧ o + 2110 ≤ 60180) (hP : u (o + 3) ≤ 300) (hg : g < u (o + 3)) (hs : ∀ k, k < u (o + 3) → u (o + 1804 + k) ≤ 16) {x1 x3 x4 : Int32} {w : Nat → Int32} {M : q_M} (h : SH M) (r : RI M u) (wi : WI M w) (eo : gI M 49 13 = nI o) : ∃ M1, q_RL T_X12_goes (180, [some (.inr (.inr (some 49))), some (.inl x1), some (.inl (nI g)), some (.inl x3), some (.inl x4)], [], M) = some (none, M1) ∧ FL f50 M M1 ∧ RI M1 (if 0 < g ∧ u (o + 1804 + (g - 1)) + u (o + 1804 + g) ≤ 10 then pgG (va_up u (o + 1804 + g - 1) (u (o + 1804 + (g - 1)) + u (o + 1804 + g))) o g else u) ∧ WI M1 w := by
  rw [E_X12_goes_180]
  have sg := hs g hg
  by_cases g0 : g = 0
  · subst g0
    refine ⟨M, ?_, FL.rf _ M, ?_, wi⟩
    · rw [if_pos (show nI 0 ≤ 0 by decide +kernel)]
    · rw [if_neg (by omega)]; exact r
  · have s1 := hs (g - 1) (by omega)
    have rg := r (o + 1804 + (g - 1)) (by omega) (by omega)
    have rw_ := r (o + 1804 + g) (by omega) (by omega)
    rw [if_neg (by rw [← nI_0]; exact nI_ge (by omega) (by omega))]
    simp only [m_sel h, Option.bind_some, pk_sub (show 1 ≤ g by omega), R_onP h r ho eo (show g - 1 ≤ 305 by omega), R_onP h r ho eo (show g ≤ 305 by omega), z_rI, nI_add]
    by_cases c : u (o + 1804 + (g - 1)) + u (o + 1804 + g) ≤ 10
    · rw [if_neg (nI_nlt c (by omega)), if_pos ⟨by omega, c⟩]
      have hA : SH (stL M 50 (o + 1804 + g - 1) (lN (u (o + 1804 + (g - 1)) + u (o + 1804 + g)))) := h
      have rA := RI_up (k := o + 1804 + g - 1) r (show u (o + 1804 + (g - 1)) + u (o + 1804 + g) < 2 ^ 62 by omega)
      have e3 : va_up u (o + 1804 + g - 1) (u (o + 1804 + (g - 1)) + u (o + 1804 + g)) (o + 3) = u (o + 3) := va_up_ne _ _ (by omega)
      obtain ⟨M1, p1, p2, p3, p4⟩ := R_pgG (k := g) ho (by rw [e3]; exact hP) (by rw [e3]; exact hg) hA rA (WI_up wi (by omega)) eo
      refine ⟨M1, ?_, ((FL.rf f50 M).st (show f50 50 from rfl)).tr p2, p3, p4⟩
      simp only [m_s h, m_fI h, Option.bind_some, eo, nI_add, pk_sub (show 1 ≤ o + 1804 + g by omega), show o + 1804 + g - 1 = o + 1804 + (g - 1) by omega, m_aL h (show o + 1804 + (g - 1) < 60190 by omega), rg.1, nI_l (show u (o + 1804 + g) < 2 ^ 31 by omega), lN_add, m_bL h (show o + 1804 + (g - 1) < 60190 by omega)]
      rw [show o + 1804 + g - 1 = o + 1804 + (g - 1) by omega] at p1 hA
      simp only [m_sel hA, Option.bind_some, p1, z_rV]
    · rw [if_pos (nI_lt (by omega) (by omega)), if_neg (fun q => c q.2)]
      exact ⟨M, rfl, FL.rf _ M, r, wi⟩
/-- what is done once the points have moved -/
theorem E37f (M : q_M) (a0 : Nat) (x1_ x2_ x3_ x4_ : Int32) (hx : x3_ ≤ x4_) : q_RL T_X12_goes (37, [some (.inr (.inr (some a0))), some (.inl x1_), some (.inl x2_), some (.inl x3_), some (.inl x4_)], [], M) = (q_fR M 12 a0 0).bind fun r1 => (q_fI M 12 a0 13).bind fun x2 => r1.bind fun a3 => (q_aL M a3 (x2 + (nI 2))).bind fun l4 => r1.bind fun a5 => (q_bL M a5 (x2 + (nI 2)) (l4 - (lN 1))).bind fun M6 => (q_fR M6 12 a0 0).bind fun r7 => (q_fI M6 12 a0 13).bind fun x8 => r7.bind fun a9 => (q_aL M6 a9 ((x8 + (nI 1804)) + x2_)).bind fun l10 => r7.bind fun a11 => (q_bL M6 a11 ((x8 + (nI 1804)) + x2_) (l10 - (lN 1))).bind fun M12 => (q_sel M12 [(12, 180)] a0).bind fun y13 => (q_rI (q_CL y13 [.inr (.inr (some a0)), .inl x2_] M12)).bind fun q14 => if q14.1 = 0 then (q_sel q14.2 [(12, 189)] a0).bind fun y59 => (q_rV (q_CL y59 [.inr (.inr (some a0)), .inl x2_] q14.2)).bind fun M60 => some (none, M60) else (q_sel q14.2 [(12, 177)] a0).bind fun y15 => (q_rI (q_CL y15 [.inr (.inr (some a0))] q14.2)).bind fun q16 => if q16.1 ≤ (x2_ + (nI 1)) then q_RL T_X12_goes (180, [some (.inr (.inr (some a0))), some (.inl x1_), some (.inl x2_), some (.inl x3_), some (.inl x4_)], [], q16.2) else (q_sel q16.2 [(12, 180)] a0).bind fun y31 => (q_rI (q_CL y31 [.inr (.inr (some a0)), .inl x2_] q16.2)).bind fun q32 => (q_sel q32.2 [(12, 180)] a0).bind fun y33 => (q_rI (q_CL y33 [.inr (.inr (some a0)), .inl (x2_ + (nI 1))] q32.2)).bind fun q34 => if (nI 10) < (q32.1 + q34.1) then q_RL T_X12_goes (180, [some (.inr (.inr (some a0))), some (.inl x1_), some (.inl x2_), some (.inl x3_), some (.inl x4_)], [], q34.2) else (q_fR q34.2 12 a0 0).bind fun r49 => (q_fI q34.2 12 a0 13).bind fun x50 => r49.bind fun a51 => (q_aL q34.2 a51 ((x50 + (nI 1804)) + x2_)).bind fun l52 => (q_sel q34.2 [(12, 180)] a0).bind fun y53 => (q_rI (q_CL y53 [.inr (.inr (some a0)), .inl (x2_ + (nI 1))] q34.2)).bind fun q54 => r49.bind fun a55 => (q_bL q54.2 a55 ((x50 + (nI 1804)) + x2_) (l52 + (Int32.toInt64 q54.1))).bind fun M56 => (q_sel M56 [(12, 189)] a0).bind fun y57 => (q_rV (q_CL y57 [.inr (.inr (some a0)), .inl (x2_ + (nI 1))] M56)).bind fun M58 => some (none, M58) := by
  rw [E_X12_goes_37, if_pos hx]
  simp only [E_X12_goes_180]
theorem R_gs37 {v : Nat → Nat} {o p g : Nat} (ho : 1100 ≤ o ∧ o + 2110 ≤ 60180) (hm : 1 ≤ v (o + 2) ∧ v (o + 2) ≤ 300) (hp : p < v (o + 2)) (hP : v (o + 3) ≤ 300) (hg : g < v (o + 3)) (hs : ∀ k, k < v (o + 3) → 1 ≤ v (o + 1804 + k) ∧ v (o + 1804 + k) ≤ 16) {x1 : Int32} {w : Nat → Int32} : ∀ n y, y + n = o + 4 + 6 * v (o + 2) - 6 → o + 4 + 6 * p ≤ y → ∀ {M : q_M}, SH M → RI M (gsY v (o + 4 + 6 * p) y) → WI M w → gI M 49 13 = nI o → ∃ M1, q_RL T_X12_goes (37, [some (.inr (.inr (some 49))), some (.inl x1), some (.inl (nI g)), some (.inl (nI (o + 4 + 6 * v (o + 2) - 6))), some (.inl (nI y))], [], M) = some (none, M1) ∧ FL f50 M M1 ∧ RI M1 (gsV v o p g) ∧ WI M1 w := by
  intro n
  induction n with
  | zero =>
    intro y hy hpy M h r wi eo
    rw [Nat.add_zero] at hy
    rw [hy] at r ⊢
    clear hpy hy
    have lo : ∀ x, x < o + 4 ∨ o + 1804 ≤ x → gsY v (o + 4 + 6 * p) (o + 4 + 6 * v (o + 2) - 6) x = v x := fun x hx => by
      unfold gsY; rw [if_neg (by omega)]
    have sg := hs g hg
    have e2 := r (o + 2) (by omega) (by omega)
    rw [lo _ (by omega)] at e2
    have hA : SH (stL M 50 (o + 2) (lN (v (o + 2) - 1))) := h
    have rA := RI_up (k := o + 2) r (show v (o + 2) - 1 < 2 ^ 62 by omega)
    have eg := rA (o + 1804 + g) (by omega) (by omega)
    rw [va_up_ne _ _ (by omega), lo _ (by omega)] at eg
    have hB : SH (stL (stL M 50 (o + 2) (lN (v (o + 2) - 1))) 50 (o + 1804 + g) (lN (v (o + 1804 + g) - 1))) := h
    have rB : RI (stL (stL M 50 (o + 2) (lN (v (o + 2) - 1))) 50 (o + 1804 + g) (lN (v (o + 1804 + g) - 1))) (gs1 v o p g) := RI_up (k := o + 1804 + g) rA (show v (o + 1804 + g) - 1 < 2 ^ 62 by omega)
    have wB : WI (stL (stL M 50 (o + 2) (lN (v (o + 2) - 1))) 50 (o + 1804 + g) (lN (v (o + 1804 + g) - 1))) w := WI_up (WI_up wi (by omega)) (by omega)
    have fB : FL f50 M (stL (stL M 50 (o + 2) (lN (v (o + 2) - 1))) 50 (o + 1804 + g) (lN (v (o + 1804 + g) - 1))) := ((FL.rf f50 M).st (show f50 50 from rfl)).st (show f50 50 from rfl)
    have eB : gI (stL (stL M 50 (o + 2) (lN (v (o + 2) - 1))) 50 (o + 1804 + g) (lN (v (o + 1804 + g) - 1))) 49 13 = nI o := eo
    rw [E37f _ _ _ _ _ _ (nI_le (Nat.le_refl _) (by omega))]
    simp only [m_s h, m_fI h, Option.bind_some, eo, nI_add, m_aL h (show o + 2 < 60190 by omega), e2.1, lN_sub hm.1, m_bL h (show o + 2 < 60190 by omega), m_s hA, m_fI hA, show gI (stL M 50 (o + 2) (lN (v (o + 2) - 1))) 49 13 = nI o from eo, m_aL hA (show o + 1804 + g < 60190 by omega), eg.1, lN_sub sg.1, m_bL hA (show o + 1804 + g < 60190 by omega)]
    generalize stL (stL M 50 (o + 2) (lN (v (o + 2) - 1))) 50 (o + 1804 + g) (lN (v (o + 1804 + g) - 1)) = B at *
    have u3 : gs1 v o p g (o + 3) = v (o + 3) := by unfold gs1; rw [va_up_ne _ _ (by omega), va_up_ne _ _ (by omega), lo _ (by omega)]
    have us : ∀ k, k < gs1 v o p g (o + 3) → gs1 v o p g (o + 1804 + k) ≤ 16 := fun k hk => by
      rw [u3] at hk
      have := hs k hk
      unfold gs1
      by_cases e : k = g
      · subst e; rw [va_up_self]; omega
      · rw [va_up_ne _ _ (by omega), va_up_ne _ _ (by omega), lo _ (by omega)]; omega
    have ug : gs1 v o p g (o + 1804 + g) ≤ 16 := us g (by rw [u3]; exact hg)
    unfold gsV
    generalize gs1 v o p g = u at *
    simp only [m_sel hB, Option.bind_some, R_onP hB rB ho eB (show g ≤ 305 by omega), z_rI, ← nI_0, nI_eq (show u (o + 1804 + g) < 2 ^ 31 by omega) (show 0 < 2 ^ 31 by omega), (R_fld hB rB ho eB).2.1, nI_add]
    unfold gsT
    by_cases c0 : u (o + 1804 + g) = 0
    · rw [if_pos c0, if_pos c0]
      obtain ⟨M1, p1, p2, p3, p4⟩ := R_pgG (k := g) ho (by omega) (by omega) hB rB wB eB
      refine ⟨M1, ?_, fB.tr p2, p3, p4⟩
      simp only [p1, z_rV, Option.bind_some]
    · rw [if_neg c0, if_neg c0]
      by_cases c1 : g + 1 < u (o + 3)
      · rw [if_neg (nI_ge c1 (by omega))]
        have u1 := us (g + 1) c1
        simp only [m_sel hB, Option.bind_some, R_onP hB rB ho eB (show g ≤ 305 by omega), R_onP hB rB ho eB (show g + 1 ≤ 305 by omega), z_rI, nI_add]
        by_cases c2 : u (o + 1804 + g) + u (o + 1804 + (g + 1)) ≤ 10
        · rw [if_neg (nI_nlt c2 (by omega)), if_pos ⟨c1, c2⟩]
          have rg := rB (o + 1804 + g) (by omega) (by omega)
          have hC : SH (stL B 50 (o + 1804 + g) (lN (u (o + 1804 + g) + u (o + 1804 + (g + 1))))) := hB
          have rC := RI_up (k := o + 1804 + g) rB (show u (o + 1804 + g) + u (o + 1804 + (g + 1)) < 2 ^ 62 by omega)
          have e3 : va_up u (o + 1804 + g) (u (o + 1804 + g) + u (o + 1804 + (g + 1))) (o + 3) = u (o + 3) := va_up_ne _ _ (by omega)
          obtain ⟨M1, p1, p2, p3, p4⟩ := R_pgG (k := g + 1) ho (by rw [e3]; omega) (by rw [e3]; exact c1) hC rC (WI_up wB (by omega)) eB
          refine ⟨M1, ?_, (fB.st (show f50 50 from rfl)).tr p2, p3, p4⟩
          simp only [m_s hB, m_fI hB, Option.bind_some, eB, nI_add, m_aL hB (show o + 1804 + g < 60190 by omega), rg.1, nI_l (show u (o + 1804 + (g + 1)) < 2 ^ 31 by omega), lN_add, m_bL hB (show o + 1804 + g < 60190 by omega), m_sel hC, p1, z_rV]
        · rw [if_pos (nI_lt (by omega) (by omega)), if_neg (fun q => c2 q.2)]
          obtain ⟨M1, p1, p2, p3, p4⟩ := R_gs180 (g := g) ho (by omega) (by omega) us (x1 := x1) (x3 := nI (o + 4 + 6 * v (o + 2) - 6)) (x4 := nI (o + 4 + 6 * v (o + 2) - 6)) hB rB wB eB
          exact ⟨M1, p1, fB.tr p2, p3, p4⟩
      · rw [if_pos (nI_le (by omega) (by omega)), if_neg (fun q => c1 q.1)]
        obtain ⟨M1, p1, p2, p3, p4⟩ := R_gs180 (g := g) ho (by omega) (by omega) us (x1 := x1) (x3 := nI (o + 4 + 6 * v (o + 2) - 6)) (x4 := nI (o + 4 + 6 * v (o + 2) - 6)) hB rB wB eB
        exact ⟨M1, p1, fB.tr p2, p3, p4⟩
  | succ n ih =>
    intro y hy hpy M h r wi eo
    have er : gsY v (o + 4 + 6 * p) y (y + 6) = v (y + 6) := by unfold gsY; rw [if_neg (by omega)]
    have rr := r (y + 6) (by omega) (by omega)
    rw [er] at rr
    have en : gsY v (o + 4 + 6 * p) (y + 1) = va_up (gsY v (o + 4 + 6 * p) y) y (v (y + 6)) := by
      funext x
      by_cases ex : x = y
      · rw [ex, va_up_self]; unfold gsY; rw [if_pos (by omega)]
      · rw [va_up_ne _ _ ex]
        unfold gsY
        by_cases c : o + 4 + 6 * p ≤ x ∧ x < y
        · rw [if_pos c, if_pos (by omega)]
        · rw [if_neg c, if_neg (by omega)]
    obtain ⟨M1, p1, p2, p3, p4⟩ := ih (y + 1) (by omega) (by omega) (M := stL M 50 y (lN (v (y + 6)))) h (by rw [en]; exact RI_up r rr.2) (WI_up wi (by omega)) eo
    refine ⟨M1, ?_, ((FL.rf f50 M).st (show f50 50 from rfl)).tr p2, p3, p4⟩
    rw [E_X12_goes_37, if_neg (nI_ge (by omega) (by omega))]
    simp only [m_s h, Option.bind_some, nI_add, nI_1, m_aL h (show y + 6 < 60190 by omega), rr.1, m_bL h (show y < 60190 by omega), p1]
theorem R_goes {v : Nat → Nat} {o p : Nat} (ho : 1100 ≤ o ∧ o + 2110 ≤ 60180) (hm : v (o + 2) ≤ 300) (hp : p < v (o + 2)) (hP : v (o + 3) ≤ 300) (hq : psm v o (v (o + 3)) = v (o + 2)) (hs : ∀ k, k < v (o + 3) → 1 ≤ v (o + 1804 + k) ∧ v (o + 1804 + k) ≤ 16) {w : Nat → Int32} {M : q_M} (h : SH M) (r : RI M v) (wi : WI M w) (eo : gI M 49 13 = nI o) : ∃ g M1, g < v (o + 3) ∧ psm v o g ≤ p ∧ p < psm v o (g + 1) ∧ q_CL 191 [.inr (.inr (some 49)), .inl (nI p)] M = some (none, M1) ∧ FL f50 M M1 ∧ RI M1 (gsV v o p g) ∧ WI M1 w := by
  obtain ⟨g, a1, a2, a3, a4⟩ := R_pgOf h r ho eo (p := p) hP (by omega) (by omega)
  have e0 : gsY v (o + 4 + 6 * p) (o + 4 + 6 * p) = v := by
    funext x
    unfold gsY
    rw [if_neg (by omega)]
  obtain ⟨M1, p1, p2, p3, p4⟩ := R_gs37 (p := p) (g := g) ho ⟨by omega, hm⟩ hp hP a1 hs (x1 := nI p) (o + 4 + 6 * v (o + 2) - 6 - (o + 4 + 6 * p)) (o + 4 + 6 * p) (by omega) (Nat.le_refl _) h (by rw [e0]; exact r) wi eo
  refine ⟨g, M1, a1, a2, a3, ?_, p2, p3, p4⟩
  rw [C_X12_goes]
  simp only [m_sel h, Option.bind_some, a4, z_rI, m_fI h, eo, (R_fld h r ho eo).1, nI_add, pk_mul, pk_sub (show 6 ≤ o + 4 + 6 * v (o + 2) by omega), p1]
