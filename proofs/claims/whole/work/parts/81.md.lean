/-! ===== THE REFERENCE: span, jump, beyond ===== -/
theorem r_i2l {x : Int32} {n : Nat} (hn : n < 2 ^ 31) : lN n ≤ x.toInt64 ↔ nI n ≤ x := i2l_lt hn
theorem R_span {v : Nat → Nat} {M : q_M} (h : SH M) (r : RI M v) (h5 : v 55 ≤ 200) (x y : Int32) : (¬ (∃ j b, j < v 55 ∧ x = nI j ∧ b < 2 ∧ y = nI b) ∧ q_CL 170 [.inr (.inr (some 49)), .inl x, .inl y] M = some (some (.inr (.inl (-1))), M)) ∨ ∃ j b, j < v 55 ∧ x = nI j ∧ b < 2 ∧ y = nI b ∧ q_CL 170 [.inr (.inr (some 49)), .inl x, .inl y] M = some (some (.inr (.inl (lN (v (57 + 2 * j + b))))), M) := by
  rw [C_X12_span]
  simp only [m_s h, Option.bind_some, m_aL h (show 55 < 60190 by omega), (r 55 (by omega) (by omega)).1, lg_cmp_ge, r_i2l (show v 55 < 2 ^ 31 by omega)]
  rcases pk_ix x (show v 55 < 2 ^ 31 by omega) with hx | hx | ⟨j, hj, rfl⟩
  · left
    refine ⟨?_, if_pos hx⟩
    rintro ⟨i, b, hi, rfl, _⟩
    exact nI_pos (by omega) hx
  · left
    refine ⟨?_, ?_⟩
    · rintro ⟨i, b, hi, rfl, _⟩
      exact nI_ge hi (by omega) hx
    · by_cases h0 : x < 0
      · rw [if_pos h0]
      · rw [if_neg h0, if_pos hx]
  · rw [if_neg (nI_pos (by omega)), if_neg (nI_ge hj (by omega))]
    rcases pk_ix y (show 2 < 2 ^ 31 by omega) with hy | hy | ⟨b, hb, rfl⟩
    · left
      refine ⟨?_, if_pos hy⟩
      rintro ⟨i, b, hi, _, hb, rfl⟩
      exact nI_pos (by omega) hy
    · left
      refine ⟨?_, ?_⟩
      · rintro ⟨i, b, hi, _, hb, rfl⟩
        exact nI_ge hb (by omega) hy
      · by_cases h0 : y < 0
        · rw [if_pos h0]
        · rw [if_neg h0, if_neg]
          intro q
          have a1 : (nI 2).toInt ≤ y.toInt := Int32.le_iff_toInt_le.mp hy
          have a2 : y.toInt ≤ (nI 1).toInt := Int32.le_iff_toInt_le.mp q
          rw [nI_toInt (by omega)] at a1 a2
          omega
    · right
      refine ⟨j, b, hj, rfl, hb, rfl, ?_⟩
      rw [if_neg (nI_pos (by omega)), if_pos (nI_le (by omega) (by omega))]
      simp only [pk_mul, nI_add, m_aL h (show 57 + 2 * j + b < 60190 by omega), Option.bind_some, (r (57 + 2 * j + b) (by omega) (by omega)).1]
theorem R_jump {v : Nat → Nat} (wc : WC v) {w : Nat → Int32} {M : q_M} (h : SH M) (r : RI M v) (wi : WI M w) (x : Int32) (l : Int64) : (¬ (∃ i, i < v 0 ∧ x = nI i ∧ ∃ lo hi, isW v i w lo hi) ∧ q_CL 174 [.inr (.inr (some 49)), .inl x, .inr (.inl l)] M = some (some (.inr (.inl (-1))), M)) ∨ ∃ i lo hi q M1, i < v 0 ∧ x = nI i ∧ isW v i w lo hi ∧ ((l < lN 0 ∧ Nx (wP v i 1 lo hi) (cS v i) 0 q) ∨ ∃ n, n < 2 ^ 63 ∧ l = lN n ∧ Nx (wP v i 1 lo hi) (cS v i) (n + 1) q) ∧ q_CL 174 [.inr (.inr (some 49)), .inl x, .inr (.inl l)] M = some (some (.inr (.inl (rL q))), M1) ∧ FM M M1 := by
  have w0 := wc.1
  rw [C_X12_jump]
  simp only [m_sel h, Option.bind_some]
  rcases R_isC h r wc x with ⟨hx, e⟩ | ⟨i, hi, rfl, e⟩
  · left
    refine ⟨fun ⟨i, a, b, _⟩ => hx ⟨i, a, b⟩, ?_⟩
    rw [e]; rfl
  · have hc := wc.2 i hi
    have c61 := cS_62 hc
    rw [e]
    simp only [z_rI, Option.bind_some]
    rw [if_neg (show ¬ nI 1 = 0 by decide +kernel)]
    simp only [m_sel h, Option.bind_some]
    rcases R_isW h r wi (show i < 8 by omega) hc with ⟨hp, e2⟩ | ⟨lo, hh, hw, e2⟩
    · left
      refine ⟨fun ⟨j, a, b, c⟩ => hp ?_, ?_⟩
      · have : i = j := (nI_eq (by omega) (by omega)).mp b
        rw [this]; exact c
      · rw [e2]; rfl
    · right
      have esz : q_CL 148 [.inr (.inr (some 49)), .inl (nI i)] M = some (some (.inr (.inl (lN (cS v i)))), M) := by
        rcases R_size h r wc (nI i) with ⟨q, _⟩ | ⟨i2, hi2, q, e3⟩
        · exact absurd ⟨i, hi, rfl⟩ q
        · have : i = i2 := (nI_eq (by omega) (by omega)).mp q
          subst this
          exact e3
      rw [e2]
      simp only [z_rI, Option.bind_some]
      rw [if_neg (show ¬ nI 1 = 0 by decide +kernel)]
      simp only [m_sel h, Option.bind_some, esz, z_rL, lg_cmp_lt, lg_cmp_ge]
      by_cases hl : l < lN 0
      · have a1 : l < lN (cS v i) := Int64.lt_of_lt_of_le hl (ln_nn (by omega))
        rw [if_pos a1, if_neg (Int64.not_le.mpr hl)]
        obtain ⟨q, M1, p1, p2, p3⟩ := R_next wc hi hw (Or.inr rfl) (f := 0) (by omega) h r wi
        refine ⟨i, lo, hh, q, M1, hi, rfl, hw, Or.inl ⟨hl, p3⟩, ?_, p2⟩
        simp only [p1, z_rL, Option.bind_some]
      · obtain ⟨n, hn, rfl⟩ := pk_lOf hl
        by_cases hS : n < cS v i
        · rw [if_pos ((pk_lLT hn (by omega)).mpr hS), if_pos (ln_nn hn)]
          obtain ⟨q, M1, p1, p2, p3⟩ := R_next wc hi hw (Or.inr rfl) (f := n + 1) (by omega) h r wi
          refine ⟨i, lo, hh, q, M1, hi, rfl, hw, Or.inr ⟨n, hn, rfl, p3⟩, ?_, p2⟩
          simp only [lN_add, p1, z_rL, Option.bind_some]
        · rw [if_neg (fun q => hS ((pk_lLT hn (by omega)).mp q))]
          exact ⟨i, lo, hh, none, M, hi, rfl, hw, Or.inr ⟨n, hn, rfl, fun m m1 m2 => by omega⟩, rfl, FM.rf M⟩
/-- the numbers in the first j spans -/
def sumN (v : Nat → Nat) : Nat → Nat
  | 0 => 0
  | j + 1 => sumN v j + (v (57 + 2 * j + 1) - v (57 + 2 * j) + 1)
theorem R_bey {v : Nat → Nat} {M : q_M} (h : SH M) (r : RI M v) (h5 : v 55 ≤ 200) (ho : ∀ j, j < v 55 → v (57 + 2 * j) ≤ v (57 + 2 * j + 1)) : q_CL 173 [.inr (.inr (some 49))] M = some (some (.inr (.inl (lN (sumN v (v 55)) - lN (if v 55 = 0 then 0 else v 56)))), M) := by
  rw [C_X12_beyond]
  have e55 := r 55 (by omega) (by omega)
  have e56 := r 56 (by omega) (by omega)
  have key : ∀ n j, j + n = v 55 → ∀ d2, q_RL T_X12_beyond (4, [some (.inr (.inr (some 49))), some (.inr (.inl (lN (sumN v j)))), d2, some (.inl (nI j))], [], M) = some (some (.inr (.inl (lN (sumN v (v 55)) - lN (if v 55 = 0 then 0 else v 56)))), M) := by
    intro n
    induction n with
    | zero =>
      intro j hj d2
      rw [E_X12_beyond_4]
      simp only [m_s h, Option.bind_some, m_aL h (show 55 < 60190 by omega), m_aL h (show 56 < 60190 by omega), e55.1, e56.1, lg_cmp_ge, r_i2l (show v 55 < 2 ^ 31 by omega), lg_cmp_eq, pk_lEQ (show v 55 < 2 ^ 63 by omega) (show 0 < 2 ^ 63 by omega)]
      rw [if_pos (nI_le (by omega) (by omega)), show j = v 55 by omega]
      by_cases z : v 55 = 0
      · rw [if_pos z, if_pos z]
      · rw [if_neg z, if_neg z]
    | succ n ih =>
      intro j hj d2
      rw [E_X12_beyond_4]
      simp only [m_s h, Option.bind_some, m_aL h (show 55 < 60190 by omega), e55.1, lg_cmp_ge, r_i2l (show v 55 < 2 ^ 31 by omega)]
      rw [if_neg (nI_ge (by omega) (by omega))]
      simp only [pk_mul, nI_add, nI_1, m_aL h (show 57 + 2 * j + 1 < 60190 by omega), m_aL h (show 57 + 2 * j < 60190 by omega), Option.bind_some, (r (57 + 2 * j + 1) (by omega) (by omega)).1, (r (57 + 2 * j) (by omega) (by omega)).1, lN_sub (ho j (by omega)), lN_add]
      exact ih (j + 1) (by omega) none
  exact key (v 55) 0 (by omega) none
