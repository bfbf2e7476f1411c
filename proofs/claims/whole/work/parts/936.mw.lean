/-! ===== THE REFERENCE: at, count, page ===== -/
/-- a slice is open, or the call is refused -/
theorem R_at {v : Nat → Nat} (s : SV v) {M : q_M} (h : SH M) (r : RI M v) (x1 x2 x3 : Int32) : ∃ M1, FO (fun _ => False) M M1 ∧ ((¬ (∃ j p t, j < 4 ∧ x1 = nI j ∧ v (oS j) = 1 ∧ x2 = nI p ∧ p < v (oS j + 2) ∧ x3 = nI t ∧ t < 6) ∧ q_CL 196 [.inr (.inr (some 49)), .inl x1, .inl x2, .inl x3] M = some (some (.inl (-1)), M1)) ∨ ∃ j p t, j < 4 ∧ x1 = nI j ∧ v (oS j) = 1 ∧ x2 = nI p ∧ p < v (oS j + 2) ∧ x3 = nI t ∧ ((t < 5 ∧ q_CL 196 [.inr (.inr (some 49)), .inl x1, .inl x2, .inl x3] M = some (some (.inl (nI (v (oS j + 4 + 6 * p + t)))), M1)) ∨ (t = 5 ∧ ∃ g, pgAt v (oS j) p g ∧ q_CL 196 [.inr (.inr (some 49)), .inl x1, .inl x2, .inl x3] M = some (some (.inl (nI g)), M1)))) := by
  rw [C_X12_at]
  simp only [m_sel h, Option.bind_some]
  rcases R_opens h r x1 with ⟨hx, M1, e, f⟩ | ⟨j, hj, rfl, eo, e⟩
  · refine ⟨M1, f, Or.inl ⟨fun ⟨j, p, t, a, b, c, _⟩ => hx ⟨j, a, b, c⟩, ?_⟩⟩
    rw [e]; rfl
  have ob := oS_b hj
  refine ⟨stI M 49 13 (nI (oS j)), (FO.rf _ M).sO, ?_⟩
  rw [e]
  simp only [z_rI, Option.bind_some]
  rw [if_neg (show ¬ nI 1 = 0 by decide +kernel)]
  have hA : SH (stI M 49 13 (nI (oS j))) := h
  have rA : RI (stI M 49 13 (nI (oS j))) v := r
  have eA : gI (stI M 49 13 (nI (oS j))) 49 13 = nI (oS j) := gI_self
  generalize stI M 49 13 (nI (oS j)) = A at *
  obtain ⟨s1, s2, s3, s4, s5, s6⟩ := s.sw hj eo
  simp only [m_sel hA, Option.bind_some, (R_fld hA rA (show 1100 ≤ oS j ∧ oS j + 2110 ≤ 60180 by omega) eA).1, z_rI]
  have bad : ∀ {P : Prop}, (∀ p t, x2 = nI p → p < v (oS j + 2) → x3 = nI t → t < 6 → False) → ¬ (∃ j' p t, j' < 4 ∧ nI j = nI j' ∧ v (oS j') = 1 ∧ x2 = nI p ∧ p < v (oS j' + 2) ∧ x3 = nI t ∧ t < 6) := fun g => by
    rintro ⟨j', p, t, a1, a2, a3, a4, a5, a6, a7⟩
    have : j = j' := (nI_eq (by omega) (by omega)).mp a2
    subst this
    exact g p t a4 a5 a6 a7
  rcases pk_ix x2 (show v (oS j + 2) < 2 ^ 31 by omega) with q | q | ⟨p, hp, rfl⟩
  · left
    refine ⟨bad (P := True) fun p t a b _ _ => ?_, if_pos q⟩
    subst a
    exact nI_pos (by omega) q
  · left
    refine ⟨bad (P := True) fun p t a b _ _ => ?_, ?_⟩
    · subst a
      exact nI_ge b (by omega) q
    · by_cases q0 : x2 < 0
      · rw [if_pos q0]
      · rw [if_neg q0, if_pos q]
  rw [if_neg (nI_pos (by omega)), if_neg (nI_ge hp (by omega))]
  rcases pk_ix x3 (show 6 < 2 ^ 31 by omega) with q | q | ⟨t, ht, rfl⟩
  · left
    refine ⟨bad (P := True) fun p t _ _ a b => ?_, if_pos q⟩
    subst a
    exact nI_pos (by omega) q
  · left
    refine ⟨bad (P := True) fun p t _ _ a b => ?_, ?_⟩
    · subst a
      exact nI_ge b (by omega) q
    · by_cases q0 : x3 < 0
      · rw [if_pos q0]
      · rw [if_neg q0, if_neg]
        intro z
        have a1 : (nI 6).toInt ≤ x3.toInt := Int32.le_iff_toInt_le.mp q
        have a2 : x3.toInt ≤ (nI 5).toInt := Int32.le_iff_toInt_le.mp z
        rw [nI_toInt (by omega)] at a1 a2
        omega
  right
  refine ⟨j, p, t, hj, rfl, eo, rfl, hp, rfl, ?_⟩
  rw [if_neg (nI_pos (by omega)), if_pos (nI_le (by omega) (by omega))]
  by_cases e5 : t = 5
  · right
    subst e5
    obtain ⟨g, g1, g2, g3, g4⟩ := R_pgOf hA rA (by omega) eA (p := p) (P := v (oS j + 3)) (by omega) (by omega) (by omega)
    refine ⟨rfl, g, ⟨g1, g2, g3⟩, ?_⟩
    rw [if_pos rfl]
    simp only [g4, z_rI, Option.bind_some]
  · left
    refine ⟨by omega, ?_⟩
    rw [if_neg (fun z => e5 ((nI_eq (by omega) (by omega)).mp z))]
    simp only [R_point hA rA (show 1100 ≤ oS j ∧ oS j + 2110 ≤ 60180 by omega) eA (show p ≤ 300 by omega) ht, z_rL, Option.bind_some, lN_i]
/-- weights together -/
def wsm (v : Nat → Nat) (o f : Nat) : Nat → Nat
  | 0 => 0
  | n + 1 => wsm v o f n + v (o + 4 + 6 * (f + n) + 4)
theorem R_wt {v : Nat → Nat} {M : q_M} (h : SH M) (r : RI M v) {o : Nat} (ho : 1100 ≤ o ∧ o + 2110 ≤ 60180) (eo : gI M 49 13 = nI o) {f n : Nat} (hn : f + n ≤ 300) : q_CL 197 [.inr (.inr (some 49)), .inl (nI f), .inl (nI n)] M = some (some (.inl (nI (wsm v o f n))), M) := by
  rw [C_X12_weightOf]
  have key : ∀ m y, y + m = n → q_RL T_X12_weightOf (5, [some (.inr (.inr (some 49))), some (.inl (nI f)), some (.inl (nI n)), some (.inl (nI (wsm v o f y))), some (.inl (nI (f + y)))], [], M) = some (some (.inl (nI (wsm v o f n))), M) := by
    intro m
    induction m with
    | zero =>
      intro y hy
      rw [E_X12_weightOf_5, nI_add, if_pos (nI_le (by omega) (by omega)), show y = n by omega]
    | succ m ih =>
      intro y hy
      rw [E_X12_weightOf_5, nI_add, if_neg (nI_ge (by omega) (by omega))]
      simp only [m_sel h, Option.bind_some, R_point h r ho eo (show f + y ≤ 300 by omega) (show 4 < 6 by omega), z_rL, lN_i, nI_add, nI_1]
      exact ih (y + 1) (by omega)
  exact key n 0 (by omega)
theorem R_count {v : Nat → Nat} (s : SV v) {M : q_M} (h : SH M) (r : RI M v) (x1 x2 : Int32) : ∃ M1, FO (fun _ => False) M M1 ∧ ((¬ (∃ j, j < 4 ∧ x1 = nI j ∧ v (oS j) = 1) ∧ q_CL 198 [.inr (.inr (some 49)), .inl x1, .inl x2] M = some (some (.inl (-1)), M1)) ∨ ∃ j, j < 4 ∧ x1 = nI j ∧ v (oS j) = 1 ∧ q_CL 198 [.inr (.inr (some 49)), .inl x1, .inl x2] M = some (some (.inl (if x2 = nI 0 then nI (v (oS j + 2)) else if x2 = nI 1 then nI (v (oS j + 3)) else if x2 = nI 2 then nI (wsm v (oS j) 0 (v (oS j + 2))) else if x2 = nI 3 then nI (v (oS j + 1)) else if x2 = nI 4 then nI (v (60180 + j)) else -1)), M1)) := by
  rw [C_X12_count]
  simp only [m_sel h, Option.bind_some]
  rcases R_opens h r x1 with ⟨hx, M1, e, f⟩ | ⟨j, hj, rfl, eo, e⟩
  · refine ⟨M1, f, Or.inl ⟨hx, ?_⟩⟩
    rw [e]; rfl
  have ob := oS_b hj
  refine ⟨stI M 49 13 (nI (oS j)), (FO.rf _ M).sO, Or.inr ⟨j, hj, rfl, eo, ?_⟩⟩
  rw [e]
  simp only [z_rI, Option.bind_some]
  rw [if_neg (show ¬ nI 1 = 0 by decide +kernel)]
  have hA : SH (stI M 49 13 (nI (oS j))) := h
  have rA : RI (stI M 49 13 (nI (oS j))) v := r
  have eA : gI (stI M 49 13 (nI (oS j))) 49 13 = nI (oS j) := gI_self
  have rk := rA (60180 + j) (by omega) (by omega)
  generalize stI M 49 13 (nI (oS j)) = A at *
  obtain ⟨s1, s2, s3, s4, s5, s6⟩ := s.sw hj eo
  obtain ⟨f1, f2, f3⟩ := R_fld hA rA (show 1100 ≤ oS j ∧ oS j + 2110 ≤ 60180 by omega) eA
  simp only [m_sel hA, Option.bind_some, f1, f2, f3, z_rI, R_wt hA rA (show 1100 ≤ oS j ∧ oS j + 2110 ≤ 60180 by omega) eA (show 0 + v (oS j + 2) ≤ 300 by omega), m_s hA, nI_add, m_aL hA (show 60180 + j < 60190 by omega), rk.1, lN_i]
  by_cases c0 : x2 = nI 0
  · simp only [if_pos c0]
  by_cases c1 : x2 = nI 1
  · simp only [if_neg c0, if_pos c1]
  by_cases c2 : x2 = nI 2
  · simp only [if_neg c0, if_neg c1, if_pos c2]
  by_cases c3 : x2 = nI 3
  · simp only [if_neg c0, if_neg c1, if_neg c2, if_pos c3]
  by_cases c4 : x2 = nI 4
  · simp only [if_neg c0, if_neg c1, if_neg c2, if_neg c3, if_pos c4]
  simp only [if_neg c0, if_neg c1, if_neg c2, if_neg c3, if_neg c4]
/-- the least and the greatest on an axis -/
def lwP (v : Nat → Nat) (o f a : Nat) : Nat → Nat
  | 0 => v (o + 4 + 6 * f + (1 + a))
  | n + 1 => if v (o + 4 + 6 * (f + n) + (1 + a)) < lwP v o f a n then v (o + 4 + 6 * (f + n) + (1 + a)) else lwP v o f a n
def hwP (v : Nat → Nat) (o f a : Nat) : Nat → Nat
  | 0 => v (o + 4 + 6 * f + (1 + a))
  | n + 1 => if hwP v o f a n < v (o + 4 + 6 * (f + n) + (1 + a)) then v (o + 4 + 6 * (f + n) + (1 + a)) else hwP v o f a n
theorem lh_b {v : Nat → Nat} {o f a B : Nat} : ∀ n, (∀ y, y ≤ n → v (o + 4 + 6 * (f + y) + (1 + a)) < B) → lwP v o f a n < B ∧ hwP v o f a n < B
  | 0, h => ⟨h 0 (Nat.le_refl _), h 0 (Nat.le_refl _)⟩
  | n + 1, h => by
    have ih := lh_b n (fun y hy => h y (by omega))
    have hn := h n (by omega)
    unfold lwP hwP
    refine ⟨?_, ?_⟩
    · split
      · exact hn
      · exact ih.1
    · split
      · exact hn
      · exact ih.2
theorem R_bnd {v : Nat → Nat} {M : q_M} (h : SH M) (r : RI M v) {o : Nat} (ho : 1100 ≤ o ∧ o + 2110 ≤ 60180) (eo : gI M 49 13 = nI o) {k f n : Nat} (hk : k ≤ 300) (ef : psm v o k = f) (en : v (o + 1804 + k) = n) (hn : 1 ≤ n) (hf : f + n ≤ 300) (hb : ∀ y a, y < f + n → a < 3 → v (o + 4 + 6 * y + (1 + a)) < 2 ^ 30) : ∃ M1, q_CL 199 [.inr (.inr (some 49)), .inl (nI k)] M = some (none, M1) ∧ fr b56 M M1 ∧ ∀ a, a < 3 → gI M1 55 a = nI (lwP v o f a n) ∧ gI M1 56 a = nI (hwP v o f a n) := by
  rw [C_X12_bounds]
  simp only [m_sel h, Option.bind_some, R_beg h r ho eo hk, z_rI, ef]
  have k43 : ∀ a, a < 3 → ∀ m y, y + m = n → ∀ M, SH M → RI M v → gI M 49 13 = nI o → gI M 55 a = nI (lwP v o f a y) → gI M 56 a = nI (hwP v o f a y) → ∀ d5, ∃ M1 d5', q_RL T_X12_bounds (43, [some (.inr (.inr (some 49))), some (.inl (nI k)), some (.inl (nI f)), some (.inl (nI a)), some (.inl (nI (f + y))), d5], [], M) = q_RL T_X12_bounds (8, [some (.inr (.inr (some 49))), some (.inl (nI k)), some (.inl (nI f)), some (.inl (nI (a + 1))), some (.inl (nI (f + n))), d5'], [], M1) ∧ fr (fun b j => (b = 55 ∨ b = 56) ∧ j = a) M M1 ∧ gI M1 55 a = nI (lwP v o f a n) ∧ gI M1 56 a = nI (hwP v o f a n) := by
    intro a ha m
    induction m with
    | zero =>
      intro y hy M h r eo e5 e6 d5
      refine ⟨M, d5, ?_, fr.rf _ M, ?_, ?_⟩
      · rw [E_X12_bounds_43]
        simp only [m_sel h, Option.bind_some, R_onP h r ho eo (show k ≤ 305 by omega), z_rI, en, nI_add, nI_1]
        rw [if_pos (nI_le (by omega) (by omega)), show y = n by omega]
      · rw [e5, show y = n by omega]
      · rw [e6, show y = n by omega]
    | succ m ih =>
      intro y hy M h r eo e5 e6 d5
      have hv := hb (f + y) a (by omega) ha
      have hlh := lh_b (v := v) (o := o) (f := f) (a := a) (B := 2 ^ 30) y (fun z hz => hb (f + z) a (by omega) ha)
      have hA : SH (stI M 55 a (nI (lwP v o f a (y + 1)))) := h
      have rA : RI (stI M 55 a (nI (lwP v o f a (y + 1)))) v := r
      have hB : SH (stI (stI M 55 a (nI (lwP v o f a (y + 1)))) 56 a (nI (hwP v o f a (y + 1)))) := h
      have e6A : gI (stI M 55 a (nI (lwP v o f a (y + 1)))) 56 a = nI (hwP v o f a y) := (gI_oth (by omega)).trans e6
      obtain ⟨M1, d5', p1, p2, p3, p4⟩ := ih (y + 1) (by omega) (stI (stI M 55 a (nI (lwP v o f a (y + 1)))) 56 a (nI (hwP v o f a (y + 1)))) h r ((gI_oth (by omega)).trans ((gI_oth (by omega)).trans eo)) ((gI_oth (by omega)).trans gI_self) gI_self (some (.inl (nI (v (o + 4 + 6 * (f + y) + (1 + a))))))
      refine ⟨M1, d5', ?_, (((fr.rf (fun b j => (b = 55 ∨ b = 56) ∧ j = a) M).st ⟨Or.inl rfl, rfl⟩).st ⟨Or.inr rfl, rfl⟩).tr p2, p3, p4⟩
      rw [← p1, E_X12_bounds_43]
      simp only [m_sel h, Option.bind_some, R_onP h r ho eo (show k ≤ 305 by omega), z_rI, en, nI_add, nI_1]
      rw [if_neg (nI_ge (by omega) (by omega))]
      simp only [R_point h r ho eo (show f + y ≤ 300 by omega) (show 1 + a < 6 by omega), z_rL, Option.bind_some, lN_i, m_lo h, m_a3 h (Or.inl rfl) ha, e5, m_b3 h (Or.inl rfl) ha]
      by_cases c : v (o + 4 + 6 * (f + y) + (1 + a)) < lwP v o f a y
      · have eL : lwP v o f a (y + 1) = v (o + 4 + 6 * (f + y) + (1 + a)) := if_pos c
        rw [if_neg (nI_ge c (by omega))]
        rw [eL] at hA e6A ⊢
        simp only [m_hi hA, Option.bind_some, m_a3 hA (Or.inr (Or.inl rfl)) ha, e6A, m_b3 hA (Or.inr (Or.inl rfl)) ha]
        by_cases d : hwP v o f a y < v (o + 4 + 6 * (f + y) + (1 + a))
        · rw [if_neg (nI_ge d (by omega)), show hwP v o f a (y + 1) = v (o + 4 + 6 * (f + y) + (1 + a)) from if_pos d]
          rfl
        · rw [if_pos (nI_le (by omega) (by omega)), show hwP v o f a (y + 1) = hwP v o f a y from if_neg d]
          rfl
      · have eL : lwP v o f a (y + 1) = lwP v o f a y := if_neg c
        rw [if_pos (nI_le (by omega) (by omega))]
        rw [eL] at hA e6A ⊢
        simp only [m_hi hA, Option.bind_some, m_a3 hA (Or.inr (Or.inl rfl)) ha, e6A, m_b3 hA (Or.inr (Or.inl rfl)) ha]
        by_cases d : hwP v o f a y < v (o + 4 + 6 * (f + y) + (1 + a))
        · rw [if_neg (nI_ge d (by omega)), show hwP v o f a (y + 1) = v (o + 4 + 6 * (f + y) + (1 + a)) from if_pos d]
          rfl
        · rw [if_pos (nI_le (by omega) (by omega)), show hwP v o f a (y + 1) = hwP v o f a y from if_neg d]
          rfl
  have k8 : ∀ m a, a + m = 3 → ∀ M, SH M → RI M v → gI M 49 13 = nI o → (∀ b, b < a → gI M 55 b = nI (lwP v o f b n) ∧ gI M 56 b = nI (hwP v o f b n)) → ∀ d4 d5, ∃ M1, q_RL T_X12_bounds (8, [some (.inr (.inr (some 49))), some (.inl (nI k)), some (.inl (nI f)), some (.inl (nI a)), d4, d5], [], M) = some (none, M1) ∧ fr b56 M M1 ∧ ∀ a, a < 3 → gI M1 55 a = nI (lwP v o f a n) ∧ gI M1 56 a = nI (hwP v o f a n) := by
    intro m
    induction m with
    | zero =>
      intro a ha M h r eo e d4 d5
      refine ⟨M, ?_, fr.rf _ M, fun b hb => e b (by omega)⟩
      rw [E_X12_bounds_8, if_pos (nI_le (by omega) (by omega))]
    | succ m ih =>
      intro a ha M h r eo e d4 d5
      have a3 : a < 3 := by omega
      have hA : SH (stI M 55 a (nI (v (o + 4 + 6 * f + (1 + a))))) := h
      have hB : SH (stI (stI M 55 a (nI (v (o + 4 + 6 * f + (1 + a))))) 56 a (nI (v (o + 4 + 6 * f + (1 + a))))) := h
      obtain ⟨M1, d5', p1, p2, p3, p4⟩ := k43 a a3 n 0 (by omega) (stI (stI M 55 a (nI (v (o + 4 + 6 * f + (1 + a))))) 56 a (nI (v (o + 4 + 6 * f + (1 + a))))) h r ((gI_oth (by omega)).trans ((gI_oth (by omega)).trans eo)) ((gI_oth (by omega)).trans gI_self) gI_self d5
      have h1 := p2.sh hB
      obtain ⟨M2, q1, q2, q3⟩ := ih (a + 1) (by omega) M1 h1 (p2.ri r) ((p2.2.2.2 49 13 (by omega)).trans ((gI_oth (by omega)).trans ((gI_oth (by omega)).trans eo))) (fun b hb => by
        by_cases eb : b = a
        · subst eb; exact ⟨p3, p4⟩
        · rw [p2.2.2.2 55 b (by omega), p2.2.2.2 56 b (by omega), gI_oth (by omega), gI_oth (by omega), gI_oth (by omega), gI_oth (by omega)]
          exact e b (by omega)) (some (.inl (nI (f + n)))) d5'
      refine ⟨M2, ?_, ((((fr.rf b56 M).st (Or.inl rfl)).st (Or.inr rfl)).tr (p2.wk fun b j z => z.1)).tr q2, q3⟩
      rw [E_X12_bounds_8, if_neg (nI_ge (by omega) (by omega))]
      simp only [m_lo h, m_sel h, Option.bind_some, nI_add, R_point h r ho eo (show f ≤ 300 by omega) (show 1 + a < 6 by omega), z_rL, lN_i, m_b3 h (Or.inl rfl) a3, m_hi hA, m_lo hA, m_a3 hA (Or.inl rfl) a3, gI_self, m_b3 hA (Or.inr (Or.inl rfl)) a3]
      rw [Nat.add_zero] at p1
      rw [p1, q1]
  exact k8 3 0 (by omega) M h r eo (fun b hb => by omega) none none
