/-! ===== THE REFERENCE: a point comes ===== -/
/-- the entries from y up to e moved up by six -/
def cmY (v : Nat → Nat) (y e x : Nat) : Nat := if y + 6 ≤ x ∧ x < e + 6 then v (x - 6) else v x
theorem R_cm135 {v : Nat → Nat} {a e : Nat} (ha : 1100 ≤ a) (he : e + 6 ≤ 60180) {x1 x2 x3 x4 x5 x8 x9 : Int32} {l6 : Int64} {d7 : Option q_V} {w : Nat → Int32} : ∀ n y, y = a + n → y ≤ e → ∀ M, SH M → RI M (cmY v y e) → WI M w → ∃ M1, q_RL T_X12_comes (135, [some (.inr (.inr (some 49))), some (.inl x1), some (.inl x2), some (.inl x3), some (.inl x4), some (.inl x5), some (.inr (.inl l6)), d7, some (.inl x8), some (.inl x9), some (.inl (nI a)), some (.inl (nI y + (-1)))], [], M) = q_RL T_X12_comes (135, [some (.inr (.inr (some 49))), some (.inl x1), some (.inl x2), some (.inl x3), some (.inl x4), some (.inl x5), some (.inr (.inl l6)), d7, some (.inl x8), some (.inl x9), some (.inl (nI a)), some (.inl (nI a + (-1)))], [], M1) ∧ FL f50 M M1 ∧ RI M1 (cmY v a e) ∧ WI M1 w := by
  intro n
  induction n with
  | zero =>
    intro y hy hye M h r wi
    rw [Nat.add_zero] at hy
    rw [hy] at r ⊢
    exact ⟨M, rfl, FL.rf _ M, r, wi⟩
  | succ n ih =>
    intro y hy hye M h r wi
    obtain ⟨z, rfl⟩ : ∃ z, y = z + 1 := ⟨y - 1, by omega⟩
    have er : cmY v (z + 1) e z = v z := by unfold cmY; rw [if_neg (by omega)]
    have rr := r z (by omega) (by omega)
    rw [er] at rr
    have en : cmY v z e = va_up (cmY v (z + 1) e) (z + 6) (v z) := by
      funext x
      by_cases ex : x = z + 6
      · rw [ex, va_up_self]; unfold cmY; rw [if_pos (by omega), show z + 6 - 6 = z by omega]
      · rw [va_up_ne _ _ ex]
        unfold cmY
        by_cases c : z + 1 + 6 ≤ x ∧ x < e + 6
        · rw [if_pos c, if_pos (by omega)]
        · rw [if_neg c, if_neg (by omega)]
    obtain ⟨M1, p1, p2, p3, p4⟩ := ih z (by omega) (by omega) (stL M 50 (z + 6) (lN (v z))) h (by rw [en]; exact RI_up r rr.2) (WI_up wi (by omega))
    refine ⟨M1, ?_, ((FL.rf f50 M).st (show f50 50 from rfl)).tr p2, p3, p4⟩
    rw [← p1, E_X12_comes_135, pk_m1, if_neg (nI_nlt (show a ≤ z by omega) (by omega))]
    simp only [m_s h, Option.bind_some, nI_add, m_aL h (show z < 60190 by omega), rr.1, m_bL h (show z + 6 < 60190 by omega)]
/-- the six entries of a point -/
def w6 (v : Nat → Nat) (a : Nat) (c : Nat → Nat) : Nat → Nat := va_up (va_up (va_up (va_up (va_up (va_up v a (c 0)) (a + 1) (c 1)) (a + 2) (c 2)) (a + 3) (c 3)) (a + 4) (c 4)) (a + 5) (c 5)
theorem w6_o (v : Nat → Nat) {a : Nat} (c : Nat → Nat) {x : Nat} (h : x < a ∨ a + 6 ≤ x) : w6 v a c x = v x := by
  unfold w6
  rw [va_up_ne _ _ (by omega), va_up_ne _ _ (by omega), va_up_ne _ _ (by omega), va_up_ne _ _ (by omega), va_up_ne _ _ (by omega), va_up_ne _ _ (by omega)]
/-- a point more, on page g -/
def cmC (v : Nat → Nat) (o a g : Nat) (c : Nat → Nat) : Nat → Nat := va_up (va_up (w6 v a c) (o + 2) (v (o + 2) + 1)) (o + 1804 + g) (v (o + 1804 + g) + 1)
def cmT (v : Nat → Nat) (o a g : Nat) (c : Nat → Nat) : Nat → Nat := if v (o + 1804 + g) + 1 = 17 then pgC (va_up (cmC v o a g c) (o + 1804 + g) 9) o (g + 1) 8 else cmC v o a g c
theorem R_cmT {v : Nat → Nat} {o a g : Nat} (ho : 1100 ≤ o ∧ o + 2110 ≤ 60180) (ha : o + 4 ≤ a ∧ a + 6 ≤ o + 1804) (hm : v (o + 2) < 2 ^ 31) (hP : v (o + 3) ≤ 300) (hg : g < v (o + 3)) (hs : v (o + 1804 + g) ≤ 16) {c : Nat → Nat} (hc : (∀ t, t < 5 → c t < 2 ^ 31) ∧ c 5 < 2 ^ 62) {x8 : Int32} {d7 : Option q_V} {w : Nat → Int32} {M : q_M} (h : SH M) (r : RI M v) (wi : WI M w) (eo : gI M 49 13 = nI o) : ∃ M1, q_RL T_X12_comes (135, [some (.inr (.inr (some 49))), some (.inl (nI (c 0))), some (.inl (nI (c 1))), some (.inl (nI (c 2))), some (.inl (nI (c 3))), some (.inl (nI (c 4))), some (.inr (.inl (lN (c 5)))), d7, some (.inl x8), some (.inl (nI g)), some (.inl (nI a)), some (.inl (nI a + (-1)))], [], M) = ((q_rI (q_CL 186 [.inr (.inr (some 49)), .inl x8] M1)).bind fun q => some (some (.inl q.1), q.2)) ∧ FL f50 M M1 ∧ RI M1 (cmT v o a g c) ∧ WI M1 w := by
  have c0 := hc.1 0 (by omega)
  have c1 := hc.1 1 (by omega)
  have c2 := hc.1 2 (by omega)
  have c3 := hc.1 3 (by omega)
  have c4 := hc.1 4 (by omega)
  have c5 := hc.2
  have f : f50 50 := rfl
  rw [E_X12_comes_135, show nI a + (-1) = nI (a - 1) by rw [← pk_m1 (a - 1), show a - 1 + 1 = a by omega], if_pos (nI_lt (by omega) (by omega))]
  have r6 : RI (stL (stL (stL (stL (stL (stL M 50 a (lN (c 0))) 50 (a + 1) (lN (c 1))) 50 (a + 2) (lN (c 2))) 50 (a + 3) (lN (c 3))) 50 (a + 4) (lN (c 4))) 50 (a + 5) (lN (c 5))) (w6 v a c) := RI_up (RI_up (RI_up (RI_up (RI_up (RI_up r (by omega)) (by omega)) (by omega)) (by omega)) (by omega)) c5
  have w6' : WI (stL (stL (stL (stL (stL (stL M 50 a (lN (c 0))) 50 (a + 1) (lN (c 1))) 50 (a + 2) (lN (c 2))) 50 (a + 3) (lN (c 3))) 50 (a + 4) (lN (c 4))) 50 (a + 5) (lN (c 5))) w := WI_up (WI_up (WI_up (WI_up (WI_up (WI_up wi (by omega)) (by omega)) (by omega)) (by omega)) (by omega)) (by omega)
  have f6 : FL f50 M (stL (stL (stL (stL (stL (stL M 50 a (lN (c 0))) 50 (a + 1) (lN (c 1))) 50 (a + 2) (lN (c 2))) 50 (a + 3) (lN (c 3))) 50 (a + 4) (lN (c 4))) 50 (a + 5) (lN (c 5))) := (((((((FL.rf f50 M).st f).st f).st f).st f).st f).st f)
  have h1 : SH (stL M 50 a (lN (c 0))) := h
  have h2 : SH (stL (stL M 50 a (lN (c 0))) 50 (a + 1) (lN (c 1))) := h
  have h3 : SH (stL (stL (stL M 50 a (lN (c 0))) 50 (a + 1) (lN (c 1))) 50 (a + 2) (lN (c 2))) := h
  have h4 : SH (stL (stL (stL (stL M 50 a (lN (c 0))) 50 (a + 1) (lN (c 1))) 50 (a + 2) (lN (c 2))) 50 (a + 3) (lN (c 3))) := h
  have h5 : SH (stL (stL (stL (stL (stL M 50 a (lN (c 0))) 50 (a + 1) (lN (c 1))) 50 (a + 2) (lN (c 2))) 50 (a + 3) (lN (c 3))) 50 (a + 4) (lN (c 4))) := h
  simp only [m_s h, Option.bind_some, nI_add, nI_l c0, nI_l c1, nI_l c2, nI_l c3, nI_l c4, m_bL h (show a < 60190 by omega), m_s h1, m_bL h1 (show a + 1 < 60190 by omega), m_s h2, m_bL h2 (show a + 2 < 60190 by omega), m_s h3, m_bL h3 (show a + 3 < 60190 by omega), m_s h4, m_bL h4 (show a + 4 < 60190 by omega), m_s h5, m_bL h5 (show a + 5 < 60190 by omega)]
  generalize hM : stL (stL (stL (stL (stL (stL M 50 a (lN (c 0))) 50 (a + 1) (lN (c 1))) 50 (a + 2) (lN (c 2))) 50 (a + 3) (lN (c 3))) 50 (a + 4) (lN (c 4))) 50 (a + 5) (lN (c 5)) = N at *
  have hN := f6.sh h
  have eN : gI N 49 13 = nI o := (f6.2.2.2.1 49 13 (by unfold scr; omega)).trans eo
  have rm := r6 (o + 2) (by omega) (by omega)
  rw [w6_o v c (by omega)] at rm
  have mb : v (o + 2) + 1 < 2 ^ 62 := by omega
  have hA : SH (stL N 50 (o + 2) (lN (v (o + 2) + 1))) := hN
  have eA : gI (stL N 50 (o + 2) (lN (v (o + 2) + 1))) 49 13 = nI o := eN
  have rA := RI_up (k := o + 2) r6 mb
  have rg := rA (o + 1804 + g) (by omega) (by omega)
  rw [va_up_ne _ _ (by omega), w6_o v c (by omega)] at rg
  have hB : SH (stL (stL N 50 (o + 2) (lN (v (o + 2) + 1))) 50 (o + 1804 + g) (lN (v (o + 1804 + g) + 1))) := hN
  have eB : gI (stL (stL N 50 (o + 2) (lN (v (o + 2) + 1))) 50 (o + 1804 + g) (lN (v (o + 1804 + g) + 1))) 49 13 = nI o := eN
  have rB : RI (stL (stL N 50 (o + 2) (lN (v (o + 2) + 1))) 50 (o + 1804 + g) (lN (v (o + 1804 + g) + 1))) (cmC v o a g c) := RI_up (k := o + 1804 + g) rA (show v (o + 1804 + g) + 1 < 2 ^ 62 by omega)
  have wB : WI (stL (stL N 50 (o + 2) (lN (v (o + 2) + 1))) 50 (o + 1804 + g) (lN (v (o + 1804 + g) + 1))) w := WI_up (WI_up w6' (by omega)) (by omega)
  have fB : FL f50 M (stL (stL N 50 (o + 2) (lN (v (o + 2) + 1))) 50 (o + 1804 + g) (lN (v (o + 1804 + g) + 1))) := (f6.st f).st f
  have eg : cmC v o a g c (o + 1804 + g) = v (o + 1804 + g) + 1 := va_up_self _ _ _
  have op := R_onP hB rB ho eB (k := g) (by omega)
  rw [eg] at op
  simp only [m_s hN, m_fI hN, Option.bind_some, eN, nI_add, m_aL hN (show o + 2 < 60190 by omega), rm.1, lN_add, m_bL hN (show o + 2 < 60190 by omega), m_s hA, m_fI hA, eA, m_aL hA (show o + 1804 + g < 60190 by omega), rg.1, m_bL hA (show o + 1804 + g < 60190 by omega), m_sel hB, op, z_rI, nI_eq (show v (o + 1804 + g) + 1 < 2 ^ 31 by omega) (show 17 < 2 ^ 31 by omega)]
  by_cases e : v (o + 1804 + g) + 1 = 17
  · rw [if_pos e]
    have rC := RI_up (k := o + 1804 + g) rB (show 9 < 2 ^ 62 by omega)
    have e3 : va_up (cmC v o a g c) (o + 1804 + g) 9 (o + 3) = v (o + 3) := by
      rw [va_up_ne _ _ (by omega)]
      unfold cmC
      rw [va_up_ne _ _ (by omega), va_up_ne _ _ (by omega), w6_o v c (by omega)]
    have hC : SH (stL (stL (stL N 50 (o + 2) (lN (v (o + 2) + 1))) 50 (o + 1804 + g) (lN (v (o + 1804 + g) + 1))) 50 (o + 1804 + g) (lN 9)) := hN
    obtain ⟨M1, p1, p2, p3, p4⟩ := R_pgC (k := g + 1) (n := 8) ho (by rw [e3]; exact hP) (by rw [e3]; omega) (by omega) hC rC (WI_up wB (by omega)) eB
    refine ⟨M1, ?_, (fB.st f).tr p2, ?_, p4⟩
    · simp only [m_s hB, m_fI hB, Option.bind_some, eB, nI_add, m_bL hB (show o + 1804 + g < 60190 by omega), m_sel hC, p1, z_rV, m_sel (p2.sh hC)]
    · unfold cmT; rw [if_pos e]; exact p3
  · rw [if_neg e]
    refine ⟨_, rfl, fB, ?_, wB⟩
    unfold cmT; rw [if_neg e]; exact rB
