/-! ===== THE REFERENCE: lay ===== -/
def lyV (v : Nat → Nat) (k t a b : Nat) : Nat → Nat := if t = 3 then va_up v (1060 + 4 * k) 0 else if t = 2 then va_up (va_up v (1060 + 4 * k + 1) a) (1060 + 4 * k) 3 else va_up (va_up (va_up v (1060 + 4 * k + 1) a) (1060 + 4 * k + 2) b) (1060 + 4 * k) (t + 1)
def lyC (v : Nat → Nat) (x3 x4 : Int32) (t a b : Nat) : Prop := (t = 3 ∧ a = 0 ∧ b = 0) ∨ (t = 2 ∧ a < v 0 ∧ x4 = nI a ∧ b = 0) ∨ (t = 0 ∧ ∃ j p, j < 4 ∧ x3 = nI j ∧ v (oS j) = 1 ∧ nmAt v (oS j) x4 p ∧ a = v (oS j + 4 + 6 * p + 5) ∧ b = v (oS j + 4 + 6 * p + 4)) ∨ (t = 1 ∧ ∃ j n, j < 4 ∧ x3 = nI j ∧ v (oS j) = 1 ∧ x4 = nI n ∧ n < v (oS j + 3) ∧ a = v (oS j + 1804 + n) ∧ b = wsm v (oS j) (psm v (oS j) n) (v (oS j + 1804 + n)))
theorem wsm_b {v : Nat → Nat} {i o : Nat} (s : SW v i o) {f : Nat} : ∀ n, f + n ≤ v (o + 2) → wsm v o f n ≤ 1000 * n
  | 0, _ => Nat.le_refl _
  | n + 1, h => by
    have ih := wsm_b s (f := f) n (by omega)
    have := (s.2.2.2.2.1 (f + n) (by omega)).2.1
    show wsm v o f n + v (o + 4 + 6 * (f + n) + 4) ≤ _
    omega
theorem R_lay {v : Nat → Nat} (s : SV v) {w : Nat → Int32} {M : q_M} (h : SH M) (r : RI M v) (wi : WI M w) (x1 x2 x3 x4 : Int32) : (¬ (∃ k t a b, k < 8 ∧ x1 = nI k ∧ t < 4 ∧ x2 = nI t ∧ lyC v x3 x4 t a b) ∧ ∃ M1, q_CL 228 [.inr (.inr (some 49)), .inl x1, .inl x2, .inl x3, .inl x4] M = some (some (.inl (nI 0)), M1) ∧ FO (fun _ => False) M M1) ∨ ∃ k t a b M1, k < 8 ∧ x1 = nI k ∧ t < 4 ∧ x2 = nI t ∧ lyC v x3 x4 t a b ∧ q_CL 228 [.inr (.inr (some 49)), .inl x1, .inl x2, .inl x3, .inl x4] M = some (some (.inl (nI 1)), M1) ∧ FO f50 M M1 ∧ RI M1 (lyV v k t a b) ∧ WI M1 w := by
  have w0 := s.1.1
  have f : f50 50 := rfl
  rw [C_X12_lay]
  have t0 : nI 0 = 0 ∨ nI 0 = 1 := Or.inl rfl
  have t1 : nI 1 = 0 ∨ nI 1 = 1 := Or.inr rfl
  simp only [if_pos t0, if_pos t1]
  rcases ix3 x1 (show 7 + 1 < 2 ^ 31 by omega) with z | ⟨z1, z2, z3⟩ | ⟨k, hk8, rfl⟩
  · left
    refine ⟨?_, M, if_pos z, FO.rf _ M⟩
    rintro ⟨p, t, a, b, hp, rfl, _⟩
    exact nI_pos (by omega) z
  · left
    refine ⟨?_, M, by rw [if_neg z1, if_pos z2], FO.rf _ M⟩
    rintro ⟨p, t, a, b, hp, rfl, _⟩
    exact z3 (nI_le (by omega) (by omega))
  rw [if_neg (nI_pos (by omega)), if_neg (nI_nlt hk8 (by omega))]
  rcases ix3 x2 (show 3 + 1 < 2 ^ 31 by omega) with z | ⟨z1, z2, z3⟩ | ⟨t, ht, rfl⟩
  · left
    refine ⟨?_, M, if_pos z, FO.rf _ M⟩
    rintro ⟨p, t, a, b, hp, _, ht, rfl, _⟩
    exact nI_pos (by omega) z
  · left
    refine ⟨?_, M, by rw [if_neg z1, if_neg z3], FO.rf _ M⟩
    rintro ⟨p, t, a, b, hp, _, ht, rfl, _⟩
    exact z3 (nI_le (by omega) (by omega))
  rw [if_neg (nI_pos (by omega)), if_pos (nI_le ht (by omega))]
  have no : (∀ a b, ¬ lyC v x3 x4 t a b) → ¬ (∃ k' t' a b, k' < 8 ∧ nI k = nI k' ∧ t' < 4 ∧ nI t = nI t' ∧ lyC v x3 x4 t' a b) := fun n => by
    rintro ⟨k', t', a, b, _, _, ht', et, c⟩
    have : t = t' := (nI_eq (by omega) (by omega)).mp et
    subst this
    exact n a b c
  have hk : 1060 + 4 * k + 2 < 60190 := by omega
  simp only [nI_eq (show t < 2 ^ 31 by omega) (show 3 < 2 ^ 31 by omega), nI_eq (show t < 2 ^ 31 by omega) (show 2 < 2 ^ 31 by omega), pk_mul, nI_add]
  by_cases c3 : t = 3
  · right
    subst c3
    rw [if_pos rfl]
    simp only [m_s h, Option.bind_some, m_bL h (show 1060 + 4 * k < 60190 by omega)]
    refine ⟨k, 3, 0, 0, _, by omega, rfl, by omega, rfl, Or.inl ⟨rfl, rfl, rfl⟩, rfl, (FO.rf f50 M).st f, ?_, WI_up wi (by omega)⟩
    unfold lyV
    rw [if_pos rfl]
    exact RI_up r (by omega)
  rw [if_neg c3]
  by_cases c2 : t = 2
  · subst c2
    rw [if_pos rfl]
    simp only [m_sel h, Option.bind_some]
    rcases R_isC h r s.1 x4 with ⟨n, e⟩ | ⟨i, hi, rfl, e⟩
    · left
      refine ⟨no ?_, M, ?_, FO.rf _ M⟩
      · rintro a b (⟨q, _⟩ | ⟨_, q1, q2, _⟩ | ⟨q, _⟩ | ⟨q, _⟩)
        · omega
        · exact n ⟨a, q1, q2⟩
        · omega
        · omega
      · rw [e]; rfl
    · right
      rw [e]
      simp only [z_rI, Option.bind_some]
      rw [if_neg (show ¬ nI 1 = 0 by decide +kernel)]
      have hA : SH (stL M 50 (1060 + 4 * k + 1) (lN i)) := h
      simp only [m_s h, Option.bind_some, nI_l (show i < 2 ^ 31 by omega), m_bL h (show 1060 + 4 * k + 1 < 60190 by omega), m_s hA, nI_l (show 2 + 1 < 2 ^ 31 by omega), m_bL hA (show 1060 + 4 * k < 60190 by omega)]
      refine ⟨k, 2, i, 0, _, by omega, rfl, by omega, rfl, Or.inr (Or.inl ⟨rfl, hi, rfl, rfl⟩), rfl, ((FO.rf f50 M).st f).st f, ?_, WI_up (WI_up wi (by omega)) (by omega)⟩
      unfold lyV
      rw [if_neg (by omega), if_pos rfl]
      exact RI_up (RI_up r (by omega)) (by omega)
  rw [if_neg c2]
  simp only [m_sel h, Option.bind_some]
  rcases R_opens h r x3 with ⟨hx, M1, e, fM⟩ | ⟨j, hj, rfl, eo, e⟩
  · left
    refine ⟨no ?_, M1, ?_, fM⟩
    · rintro a b (⟨q, _⟩ | ⟨q, _⟩ | ⟨_, j, p, q1, q2, q3, _⟩ | ⟨_, j, n, q1, q2, q3, _⟩)
      · omega
      · omega
      · exact hx ⟨j, q1, q2, q3⟩
      · exact hx ⟨j, q1, q2, q3⟩
    · rw [e]; rfl
  have ob := oS_b hj
  have ho : 1100 ≤ oS j ∧ oS j + 2110 ≤ 60180 := by omega
  rw [e]
  simp only [z_rI, Option.bind_some]
  rw [if_neg (show ¬ nI 1 = 0 by decide +kernel)]
  have hA : SH (stI M 49 13 (nI (oS j))) := h
  have rA : RI (stI M 49 13 (nI (oS j))) v := r
  have wA : WI (stI M 49 13 (nI (oS j))) w := wi
  have fA : ∀ A, FO A M (stI M 49 13 (nI (oS j))) := fun A => (FO.rf A M).sO
  have eA : gI (stI M 49 13 (nI (oS j))) 49 13 = nI (oS j) := gI_self
  generalize stI M 49 13 (nI (oS j)) = A at *
  have sw := s.sw hj eo
  have sw1 := sw.1
  have sw2 := sw.2.1
  obtain ⟨i8, hc⟩ := s.i8 hj eo
  by_cases c0 : t = 0
  · subst c0
    rw [if_pos nI_0]
    simp only [m_sel hA, Option.bind_some]
    rcases R_nm sw hA rA ho eA x4 with ⟨a, b⟩ | ⟨p, a, b⟩
    · left
      refine ⟨no ?_, A, ?_, fA _⟩
      · rintro a' b' (⟨q, _⟩ | ⟨q, _⟩ | ⟨_, j', p, q1, q2, q3, q4, _⟩ | ⟨q, _⟩)
        · omega
        · omega
        · have : j = j' := (nI_eq (by omega) (by omega)).mp q2
          subst this
          exact a p q4.1 q4.2.1
        · omega
      · rw [b]
        simp only [z_rI, Option.bind_some]
        rw [E_X12_lay_101]
        simp only [if_pos t0]
        rw [if_pos nI_0, if_pos trivial]
    · right
      have hp3 : p < 300 := by have := a.1; omega
      have q5 := R_point hA rA ho eA (p := p) (k := 5) (by omega) (by omega)
      have b5 := rA (oS j + 4 + 6 * p + 5) (by omega) (by omega)
      have b4 := rA (oS j + 4 + 6 * p + 4) (by omega) (by omega)
      have hB : SH (stL A 50 (1060 + 4 * k + 1) (lN (v (oS j + 4 + 6 * p + 5)))) := hA
      have rB := RI_up (k := 1060 + 4 * k + 1) rA b5.2
      have eB : gI (stL A 50 (1060 + 4 * k + 1) (lN (v (oS j + 4 + 6 * p + 5)))) 49 13 = nI (oS j) := eA
      have q4 := R_point hB rB ho eB (p := p) (k := 4) (by omega) (by omega)
      rw [va_up_ne _ _ (by omega)] at q4
      have hC : SH (stL (stL A 50 (1060 + 4 * k + 1) (lN (v (oS j + 4 + 6 * p + 5)))) 50 (1060 + 4 * k + 2) (lN (v (oS j + 4 + 6 * p + 4)))) := hA
      refine ⟨k, 0, _, _, stL (stL (stL A 50 (1060 + 4 * k + 1) (lN (v (oS j + 4 + 6 * p + 5)))) 50 (1060 + 4 * k + 2) (lN (v (oS j + 4 + 6 * p + 4)))) 50 (1060 + 4 * k) (lN (0 + 1)), by omega, rfl, by omega, rfl, Or.inr (Or.inr (Or.inl ⟨rfl, j, p, hj, rfl, eo, a, rfl, rfl⟩)), ?_, (((fA f50).st f).st f).st f, ?_, WI_up (WI_up (WI_up wA (by omega)) (by omega)) (by omega)⟩
      · rw [b]
        simp only [z_rI, Option.bind_some]
        rw [E_X12_lay_101]
        simp only [if_pos nI_0, if_pos t0, if_pos t1, if_neg (nI_nm1 (show p < 2 ^ 31 by omega))]
        simp only [m_s hA, m_sel hA, Option.bind_some, q5, z_rL, nI_add, m_bL hA (show 1060 + 4 * k + 1 < 60190 by omega), m_s hB, m_sel hB, q4, m_bL hB (show 1060 + 4 * k + 2 < 60190 by omega), m_s hC, nI_l (show 0 + 1 < 2 ^ 31 by omega), m_bL hC (show 1060 + 4 * k < 60190 by omega)]
      · unfold lyV
        rw [if_neg (by omega), if_neg (by omega)]
        exact RI_up (RI_up rB b4.2) (by omega)
  · have c1 : t = 1 := by omega
    subst c1
    rw [if_neg (show ¬ nI 1 = 0 by decide +kernel), E_X12_lay_101]
    simp only [if_neg (show ¬ nI 1 = 0 by decide +kernel), if_pos t0, if_pos t1]
    rcases pk_ix x4 (show v (oS j + 3) < 2 ^ 31 by omega) with z | z | ⟨n, hn, rfl⟩
    · left
      refine ⟨no ?_, A, if_pos z, fA _⟩
      rintro a' b' (⟨q, _⟩ | ⟨q, _⟩ | ⟨q, _⟩ | ⟨_, j', n, q1, q2, q3, rfl, q5, _⟩)
      · omega
      · omega
      · omega
      · have : j = j' := (nI_eq (by omega) (by omega)).mp q2
        subst this
        exact nI_pos (by omega) z
    · left
      refine ⟨no ?_, A, ?_, fA _⟩
      · rintro a' b' (⟨q, _⟩ | ⟨q, _⟩ | ⟨q, _⟩ | ⟨_, j', n, q1, q2, q3, rfl, q5, _⟩)
        · omega
        · omega
        · omega
        · have : j = j' := (nI_eq (by omega) (by omega)).mp q2
          subst this
          exact nI_ge q5 (by omega) z
      · by_cases y : x4 < 0
        · rw [if_pos y]
        · rw [if_neg y]
          simp only [m_sel hA, Option.bind_some, (R_fld hA rA ho eA).2.1, z_rI]
          rw [if_neg]
          intro u
          have a := Int32.le_iff_toInt_le.mp z
          have b := Int32.lt_iff_toInt_lt.mp u
          omega
    · right
      have hpg := sw.pg hn
      have b5 := rA (oS j + 1804 + n) (by omega) (by omega)
      have sz := (sw.2.2.2.1 n hn)
      have wb := wsm_b sw (f := psm v (oS j) n) _ hpg
      have hB : SH (stL A 50 (1060 + 4 * k + 1) (lN (v (oS j + 1804 + n)))) := hA
      have rB := RI_up (k := 1060 + 4 * k + 1) rA b5.2
      have eB : gI (stL A 50 (1060 + 4 * k + 1) (lN (v (oS j + 1804 + n)))) 49 13 = nI (oS j) := eA
      have hxB : ∀ x, x < 49 ∨ 1100 ≤ x → va_up v (1060 + 4 * k + 1) (v (oS j + 1804 + n)) x = v x := fun x hx => va_up_ne _ _ (by omega)
      have q1 := R_beg hB rB ho eB (p := n) (by omega)
      rw [psm_hi ho.1 hxB] at q1
      have q2 := R_onP hB rB ho eB (k := n) (by omega)
      rw [hxB _ (by omega)] at q2
      have q3 := R_wt hB rB ho eB (f := psm v (oS j) n) (n := v (oS j + 1804 + n)) (by omega)
      have wq : ∀ m, wsm (va_up v (1060 + 4 * k + 1) (v (oS j + 1804 + n))) (oS j) (psm v (oS j) n) m = wsm v (oS j) (psm v (oS j) n) m := by
        intro m
        induction m with
        | zero => rfl
        | succ m ih =>
          show _ + _ = _ + _
          rw [ih, hxB _ (by omega)]
      rw [wq] at q3
      have hC : SH (stL (stL A 50 (1060 + 4 * k + 1) (lN (v (oS j + 1804 + n)))) 50 (1060 + 4 * k + 2) (lN (wsm v (oS j) (psm v (oS j) n) (v (oS j + 1804 + n))))) := hA
      refine ⟨k, 1, _, _, stL (stL (stL A 50 (1060 + 4 * k + 1) (lN (v (oS j + 1804 + n)))) 50 (1060 + 4 * k + 2) (lN (wsm v (oS j) (psm v (oS j) n) (v (oS j + 1804 + n))))) 50 (1060 + 4 * k) (lN (1 + 1)), by omega, rfl, by omega, rfl, Or.inr (Or.inr (Or.inr ⟨rfl, j, n, hj, rfl, eo, rfl, hn, rfl, rfl⟩)), ?_, (((fA f50).st f).st f).st f, ?_, WI_up (WI_up (WI_up wA (by omega)) (by omega)) (by omega)⟩
      · rw [if_neg (nI_pos (by omega))]
        simp only [m_sel hA, Option.bind_some, (R_fld hA rA ho eA).2.1, z_rI]
        rw [if_pos (nI_lt hn (by omega))]
        simp only [m_s hA, m_sel hA, Option.bind_some, R_onP hA rA ho eA (show n ≤ 305 by omega), z_rI, nI_l (show v (oS j + 1804 + n) < 2 ^ 31 by omega), nI_add, m_bL hA (show 1060 + 4 * k + 1 < 60190 by omega), m_s hB, m_sel hB, q1, q2, q3, nI_l (show wsm v (oS j) (psm v (oS j) n) (v (oS j + 1804 + n)) < 2 ^ 31 by omega), m_bL hB (show 1060 + 4 * k + 2 < 60190 by omega), m_s hC, nI_l (show 1 + 1 < 2 ^ 31 by omega), m_bL hC (show 1060 + 4 * k < 60190 by omega)]
      · unfold lyV
        rw [if_neg (by omega), if_neg (by omega)]
        exact RI_up (RI_up rB (by omega)) (by omega)
