/-! ===== THE REFERENCE: curves, over the state v ===== -/
/-- the reference's array, its window aside, holds v -/
def RI (M : q_M) (v : Nat → Nat) : Prop := ∀ i, i < 60190 → ¬ (49 ≤ i ∧ i < 55) → gL M 50 i = lN (v i) ∧ v i < 2 ^ 62
theorem RI_stI {M : q_M} {v : Nat → Nat} {a k : Nat} {x : Int32} : RI (stI M a k x) v ↔ RI M v := Iff.rfl
def cK (v : Nat → Nat) (i : Nat) : Nat := v (1 + 6 * i)
def cD (v : Nat → Nat) (i : Nat) : Nat := v (1 + 6 * i + 1)
def cL (v : Nat → Nat) (i a : Nat) : Nat := v (1 + 6 * i + (2 + a))
def cS (v : Nat → Nat) (i : Nat) : Nat := v (1 + 6 * i + 5)
def cB (K : Nat) : Nat := if K = 3 then 3 else 2
def lsm (L : Nat → Nat) : Nat := L 0 + L 1 + L 2
def okI (v : Nat → Nat) (i : Nat) : Prop := okC (cK v i) (cD v i) (cL v i) ∧ cS v i = cB (cK v i) ^ lsm (cL v i)
def WC (v : Nat → Nat) : Prop := v 0 ≤ 8 ∧ ∀ i, i < v 0 → okI v i
theorem cmO_B (K d : Nat) (L : Nat → Nat) : (cmO K d L).1 = cB K := by
  unfold cmO cB
  by_cases h2 : K = 2
  · subst h2; rfl
  · rw [if_neg h2]
    by_cases h3 : K = 3
    · rw [if_pos h3, if_pos h3]
    · rw [if_neg h3, if_neg h3]
theorem cmO_R (K d : Nat) (L : Nat → Nat) (a : Nat) : (cmO K d L).2.2.2.2 a = cB K ^ L a := by
  unfold cmO cB
  by_cases h2 : K = 2
  · subst h2; rfl
  · rw [if_neg h2]
    by_cases h3 : K = 3
    · rw [if_pos h3, if_pos h3]
    · rw [if_neg h3, if_neg h3]
theorem cB_2 (K : Nat) : cB K = 2 ∨ cB K = 3 := by
  unfold cB
  by_cases h3 : K = 3
  · exact Or.inr (if_pos h3)
  · exact Or.inl (if_neg h3)
theorem R_of {M : q_M} {v : Nat → Nat} (h : SH M) (r : RI M v) {i j : Nat} (hi : i < 8) (hj : j < 6) : q_CL 142 [.inr (.inr (some 49)), .inl (nI i), .inl (nI j)] M = some (some (.inl (nI (v (1 + 6 * i + j)))), M) := by
  rw [S_of h (show 1 + 6 * i + j < 60190 by omega), (r (1 + 6 * i + j) (by omega) (by omega)).1, lN_i]
theorem R_kind {M : q_M} {v : Nat → Nat} (h : SH M) (r : RI M v) {i : Nat} (hi : i < 8) : q_CL 143 [.inr (.inr (some 49)), .inl (nI i)] M = some (some (.inl (nI (cK v i))), M) := by
  rw [S_kind h hi, (r (1 + 6 * i) (by omega) (by omega)).1, lN_i]; rfl
theorem R_axes {M : q_M} {v : Nat → Nat} (h : SH M) (r : RI M v) {i : Nat} (hi : i < 8) : q_CL 144 [.inr (.inr (some 49)), .inl (nI i)] M = some (some (.inl (nI (cD v i))), M) := by
  rw [C_X12_axes]
  simp only [m_sel h, Option.bind_some, R_of h r hi (show 1 < 6 by omega), z_rI]; rfl
theorem R_has {M : q_M} {v : Nat → Nat} (h : SH M) (r : RI M v) {i a : Nat} (hi : i < 8) (ha : a < 3) : q_CL 145 [.inr (.inr (some 49)), .inl (nI i), .inl (nI a)] M = some (some (.inl (nI (cL v i a))), M) := by
  rw [C_X12_has]
  simp only [m_sel h, Option.bind_some, nI_add, R_of h r hi (show 2 + a < 6 by omega), z_rI]; rfl
theorem sh1 : ∀ k, k < 31 → nI 1 <<< (nI k &&& 31) = nI (2 ^ k) := by decide +kernel
theorem R_can {M : q_M} {v : Nat → Nat} (h : SH M) (r : RI M v) {i a : Nat} (hi : i < 8) (ha : a < 3) (hc : okI v i) : q_CL 146 [.inr (.inr (some 49)), .inl (nI i), .inl (nI a)] M = some (some (.inl (nI (cB (cK v i) ^ cL v i a))), M) := by
  obtain ⟨⟨k4, kd, kL, _, kz, _, k3⟩, _⟩ := hc
  have hL : cL v i a ≤ 20 := kL a ha
  rw [C_X12_can]
  simp only [m_sel h, Option.bind_some, R_axes h r hi, R_kind h r hi, R_has h r hi ha, z_rI]
  simp only [nI_ltI (show a < 2 ^ 31 by omega) (show cD v i < 2 ^ 31 by omega), nI_eq (show cK v i < 2 ^ 31 by omega) (show 3 < 2 ^ 31 by omega)]
  by_cases hd : a < cD v i
  · rw [if_pos hd]
    by_cases h3 : cK v i = 3
    · rw [if_pos h3]
      have key : ∀ n j, j + n = cL v i a → q_RL T_X12_can (34, [some (.inr (.inr (some 49))), some (.inl (nI i)), some (.inl (nI a)), some (.inl (nI (3 ^ j))), some (.inl (nI j))], [], M) = some (some (.inl (nI (3 ^ cL v i a))), M) := by
        intro n
        induction n with
        | zero =>
          intro j hj
          rw [E_X12_can_34]
          simp only [m_sel h, Option.bind_some, R_has h r hi ha, z_rI]
          rw [if_pos (nI_le (by omega) (by omega)), show j = cL v i a by omega]
        | succ n ih =>
          intro j hj
          rw [E_X12_can_34]
          simp only [m_sel h, Option.bind_some, R_has h r hi ha, z_rI]
          rw [if_neg (nI_ge (by omega) (by omega)), pk_mul, nI_1, ← Nat.pow_succ]
          exact ih (j + 1) (by omega)
      rw [show cB (cK v i) = 3 from if_pos h3]
      exact key (cL v i a) 0 (by omega)
    · rw [if_neg h3, show cB (cK v i) = 2 from if_neg h3, sh1 _ (by omega)]
  · rw [if_neg hd, show cL v i a = 0 from kz a (by omega) ha, Nat.pow_zero]
/-! which curves there are -/
theorem i2l_lt {x : Int32} {n : Nat} (hn : n < 2 ^ 31) : lN n ≤ x.toInt64 ↔ nI n ≤ x := by
  rw [Int64.le_iff_toInt_le, Int32.le_iff_toInt_le, Int32.toInt_toInt64, lN_toInt hn, nI_toInt hn]
theorem R_isC {M : q_M} {v : Nat → Nat} (h : SH M) (r : RI M v) (w : WC v) (x : Int32) : (¬ (∃ i, i < v 0 ∧ x = nI i) ∧ q_CL 141 [.inr (.inr (some 49)), .inl x] M = some (some (.inl (nI 0)), M)) ∨ (∃ i, i < v 0 ∧ x = nI i ∧ q_CL 141 [.inr (.inr (some 49)), .inl x] M = some (some (.inl (nI 1)), M)) := by
  have w0 := w.1
  rw [C_X12_isCurve]
  simp only [m_s h, Option.bind_some, m_aL h (show 0 < 60190 by omega), (r 0 (by omega) (by omega)).1, lg_cmp_ge, i2l_lt (show v 0 < 2 ^ 31 by omega)]
  rcases pk_ix x (show v 0 < 2 ^ 31 by omega) with hx | hx | ⟨j, hj, rfl⟩
  · left
    refine ⟨?_, ?_⟩
    · rintro ⟨i, hi, rfl⟩
      exact nI_pos (by omega) hx
    · rw [if_pos hx]; rfl
  · left
    refine ⟨?_, ?_⟩
    · rintro ⟨i, hi, rfl⟩
      exact nI_ge hi (by omega) hx
    · rw [if_pos hx]
      by_cases hn : x < 0
      · rw [if_pos hn]; rfl
      · rw [if_neg hn]; rfl
  · right
    refine ⟨j, hj, rfl, ?_⟩
    rw [if_neg (nI_pos (by omega)), if_neg (nI_ge hj (by omega))]; rfl
theorem R_size {M : q_M} {v : Nat → Nat} (h : SH M) (r : RI M v) (w : WC v) (x : Int32) : (¬ (∃ i, i < v 0 ∧ x = nI i) ∧ q_CL 148 [.inr (.inr (some 49)), .inl x] M = some (some (.inr (.inl (lN 0))), M)) ∨ (∃ i, i < v 0 ∧ x = nI i ∧ q_CL 148 [.inr (.inr (some 49)), .inl x] M = some (some (.inr (.inl (lN (cS v i)))), M)) := by
  have w0 := w.1
  rw [C_X12_size]
  simp only [m_sel h, Option.bind_some]
  rcases R_isC h r w x with ⟨hx, e⟩ | ⟨i, hi, rfl, e⟩
  · left
    refine ⟨hx, ?_⟩
    rw [e]; rfl
  · right
    refine ⟨i, hi, rfl, ?_⟩
    rw [e]
    simp only [z_rI, Option.bind_some]
    rw [if_neg (by decide +kernel)]
    simp only [m_s h, Option.bind_some, pk_mul, nI_add, m_aL h (show 1 + 6 * i + 5 < 60190 by omega), (r (1 + 6 * i + 5) (by omega) (by omega)).1]; rfl
/-- x is a place of three steps of curve i -/
def isP (v : Nat → Nat) (i : Nat) (x y z : Int32) : Prop := ∃ q : Nat → Nat, (∀ a, a < 3 → q a < cB (cK v i) ^ cL v i a) ∧ x = nI (q 0) ∧ y = nI (q 1) ∧ z = nI (q 2)
theorem room_le {v : Nat → Nat} {i : Nat} (hc : okI v i) {a : Nat} (ha : a < 3) : 0 < cB (cK v i) ^ cL v i a ∧ cB (cK v i) ^ cL v i a ≤ 2 ^ 20 := by
  obtain ⟨⟨k4, kd, kL, _, kz, ke, k3⟩, _⟩ := hc
  refine ⟨Nat.pow_pos (by have := cB_2 (cK v i); omega), ?_⟩
  by_cases h3 : cK v i = 3
  · rw [show cB (cK v i) = 3 from if_pos h3]
    have : cL v i a ≤ 12 := by
      by_cases hd : a < cD v i
      · rw [ke (Or.inr (Or.inr h3)) a hd]; exact k3 h3
      · rw [kz a (by omega) ha]; omega
    exact Nat.le_trans (Nat.pow_le_pow_right (by omega) this) (by decide)
  · rw [show cB (cK v i) = 2 from if_neg h3]
    exact Nat.pow_le_pow_right (by omega) (kL a ha)
theorem R_isP {M : q_M} {v : Nat → Nat} (h : SH M) (r : RI M v) {i : Nat} (hi : i < 8) (hc : okI v i) (x y z : Int32) : (¬ isP v i x y z ∧ q_CL 156 [.inr (.inr (some 49)), .inl (nI i), .inl x, .inl y, .inl z] M = some (some (.inl (nI 0)), M)) ∨ (isP v i x y z ∧ q_CL 156 [.inr (.inr (some 49)), .inl (nI i), .inl x, .inl y, .inl z] M = some (some (.inl (nI 1)), M)) := by
  have b0 := room_le hc (show 0 < 3 by omega)
  have b1 := room_le hc (show 1 < 3 by omega)
  have b2 := room_le hc (show 2 < 3 by omega)
  rw [C_X12_isPlace]
  simp only [m_sel h, Option.bind_some, R_can h r hi (show 0 < 3 by omega) hc, R_can h r hi (show 1 < 3 by omega) hc, R_can h r hi (show 2 < 3 by omega) hc, z_rI]
  have t0 : nI 0 = 0 ∨ nI 0 = 1 := Or.inl rfl
  have t1 : nI 1 = 0 ∨ nI 1 = 1 := Or.inr rfl
  simp only [if_pos t0, if_pos t1]
  by_cases hx : x < 0
  · refine Or.inl ⟨?_, if_pos hx⟩
    rintro ⟨q, hq, rfl, rfl, rfl⟩
    exact nI_pos (by have := hq 0 (by omega); omega) hx
  rw [if_neg hx]
  by_cases hx2 : nI (cB (cK v i) ^ cL v i 0) ≤ x
  · refine Or.inl ⟨?_, if_pos hx2⟩
    rintro ⟨q, hq, rfl, rfl, rfl⟩
    exact nI_ge (hq 0 (by omega)) (by omega) hx2
  rw [if_neg hx2]
  by_cases hy : y < 0
  · refine Or.inl ⟨?_, if_pos hy⟩
    rintro ⟨q, hq, rfl, rfl, rfl⟩
    exact nI_pos (by have := hq 1 (by omega); omega) hy
  rw [if_neg hy]
  by_cases hy2 : nI (cB (cK v i) ^ cL v i 1) ≤ y
  · refine Or.inl ⟨?_, if_pos hy2⟩
    rintro ⟨q, hq, rfl, rfl, rfl⟩
    exact nI_ge (hq 1 (by omega)) (by omega) hy2
  rw [if_neg hy2]
  by_cases hz : z < 0
  · refine Or.inl ⟨?_, if_pos hz⟩
    rintro ⟨q, hq, rfl, rfl, rfl⟩
    exact nI_pos (by have := hq 2 (by omega); omega) hz
  rw [if_neg hz]
  by_cases hz2 : nI (cB (cK v i) ^ cL v i 2) ≤ z
  · refine Or.inl ⟨?_, if_pos hz2⟩
    rintro ⟨q, hq, rfl, rfl, rfl⟩
    exact nI_ge (hq 2 (by omega)) (by omega) hz2
  rw [if_neg hz2]
  refine Or.inr ⟨?_, rfl⟩
  obtain ⟨j0, e0, rfl⟩ : ∃ j, j < cB (cK v i) ^ cL v i 0 ∧ x = nI j := by
    rcases pk_ix x (show cB (cK v i) ^ cL v i 0 < 2 ^ 31 by omega) with q | q | q
    · exact absurd q hx
    · exact absurd q hx2
    · exact q
  obtain ⟨j1, e1, rfl⟩ : ∃ j, j < cB (cK v i) ^ cL v i 1 ∧ y = nI j := by
    rcases pk_ix y (show cB (cK v i) ^ cL v i 1 < 2 ^ 31 by omega) with q | q | q
    · exact absurd q hy
    · exact absurd q hy2
    · exact q
  obtain ⟨j2, e2, rfl⟩ : ∃ j, j < cB (cK v i) ^ cL v i 2 ∧ z = nI j := by
    rcases pk_ix z (show cB (cK v i) ^ cL v i 2 < 2 ^ 31 by omega) with q | q | q
    · exact absurd q hz
    · exact absurd q hz2
    · exact q
  refine ⟨fun a => if a = 0 then j0 else if a = 1 then j1 else j2, ?_, rfl, rfl, rfl⟩
  intro a ha
  rcases (show a = 0 ∨ a = 1 ∨ a = 2 by omega) with rfl | rfl | rfl
  · exact e0
  · exact e1
  · exact e2
theorem R_off {M : q_M} {a b : Nat} (ha : a < 2 ^ 31) (hb : b < 2 ^ 31) : q_CL 162 [.inl (nI a), .inl (nI b)] M = some (some (.inl (nI (if b ≤ a then a - b else b - a))), M) := by
  rw [C_X12_off]
  by_cases hq : b ≤ a
  · rw [if_pos (nI_le hq ha), if_pos hq, pk_sub hq]
  · rw [if_neg (nI_ge (by omega) hb), if_neg hq, pk_sub (by omega)]
/-! TURNING's turns -/
theorem tlS_w : ∀ y, y < 8 → (y < 4 → ((nI y <<< ((nI 1) &&& 31)) ||| (nI y >>> ((nI 2 - nI 1) &&& 31))) &&& ((nI 1 <<< (nI 2 &&& 31)) - nI 1) = nI (tlS 2 y) ∧ tlS 2 y < 4) ∧ ((nI y <<< ((nI 1) &&& 31)) ||| (nI y >>> ((nI 3 - nI 1) &&& 31))) &&& ((nI 1 <<< (nI 3 &&& 31)) - nI 1) = nI (tlS 3 y) ∧ tlS 3 y < 8 := by decide +kernel
theorem tlS_d {d y : Nat} (hd : d = 2 ∨ d = 3) (hy : y < 2 ^ d) : ((nI y <<< ((nI 1) &&& 31)) ||| (nI y >>> ((nI d - nI 1) &&& 31))) &&& ((nI 1 <<< (nI d &&& 31)) - nI 1) = nI (tlS d y) ∧ tlS d y < 2 ^ d := by
  rcases hd with rfl | rfl
  · exact (tlS_w y (by omega)).1 hy
  · exact (tlS_w y (by omega)).2
theorem tlN_lt {d : Nat} (hd : d = 2 ∨ d = 3) : ∀ n y, y < 2 ^ d → tlN d y n < 2 ^ d
  | 0, y, hy => hy
  | n + 1, y, hy => tlN_lt hd n _ (tlS_d hd hy).2
theorem R_tl {M : q_M} {d : Nat} (hd : d = 2 ∨ d = 3) {n y : Nat} (hn : n < 2 ^ 30) (hy : y < 2 ^ d) : q_CL 152 [.inl (nI y), .inl (nI n), .inl (nI d)] M = some (some (.inl (nI (tlN d y n))), M) := by
  rw [C_X12_turnedLeft]
  have key : ∀ m j z, j + m = n → z < 2 ^ d → q_RL T_X12_turnedLeft (5, [some (.inl (nI y)), some (.inl (nI n)), some (.inl (nI d)), some (.inl (nI z)), some (.inl (nI j))], [], M) = some (some (.inl (nI (tlN d z m))), M) := by
    intro m
    induction m with
    | zero =>
      intro j z hj hz
      rw [E_X12_turnedLeft_5, if_pos (nI_le (by omega) (by omega))]; rfl
    | succ m ih =>
      intro j z hj hz
      rw [E_X12_turnedLeft_5, if_neg (nI_ge (by omega) (by omega)), (tlS_d hd hz).1, nI_1]
      exact ih (j + 1) _ (by omega) (tlS_d hd hz).2
  exact key n 0 y (by omega) hy
