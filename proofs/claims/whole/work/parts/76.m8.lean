/-! ===== THE REFERENCE: number, place, gap ===== -/
theorem R_num {M : q_M} {v : Nat → Nat} (h : SH M) (r : RI M v) (w : WC v) (x1 x y z : Int32) : (¬ (∃ i, i < v 0 ∧ x1 = nI i ∧ isP v i x y z) ∧ q_CL 158 [.inr (.inr (some 49)), .inl x1, .inl x, .inl y, .inl z] M = some (some (.inr (.inl (-1))), M)) ∨ (∃ i q, i < v 0 ∧ x1 = nI i ∧ (∀ a, a < 3 → q a < cB (cK v i) ^ cL v i a) ∧ x = nI (q 0) ∧ y = nI (q 1) ∧ z = nI (q 2) ∧ ∃ M1, q_CL 158 [.inr (.inr (some 49)), .inl x1, .inl x, .inl y, .inl z] M = some (some (.inr (.inl (lN (npI v i q)))), M1) ∧ FM M M1) := by
  have w0 := w.1
  rw [C_X12_number]
  simp only [m_sel h, Option.bind_some]
  rcases R_isC h r w x1 with ⟨hx, e⟩ | ⟨i, hi, rfl, e⟩
  · left
    refine ⟨fun ⟨i, a, b, _⟩ => hx ⟨i, a, b⟩, ?_⟩
    rw [e]; rfl
  · rw [e]
    simp only [z_rI, Option.bind_some]
    rw [if_neg (show ¬ nI 1 = 0 by decide +kernel)]
    simp only [m_sel h, Option.bind_some]
    have hc := w.2 i hi
    rcases R_isP h r (show i < 8 by omega) hc x y z with ⟨hp, e2⟩ | ⟨⟨q, hq, rfl, rfl, rfl⟩, e2⟩
    · left
      refine ⟨fun ⟨j, a, b, c⟩ => hp ?_, ?_⟩
      · have : i = j := (nI_eq (by omega) (by omega)).mp b
        rw [this]; exact c
      · rw [e2]; rfl
    · right
      obtain ⟨M1, p1, p2⟩ := R_numOf h r (show i < 8 by omega) hc hq
      refine ⟨i, q, hi, rfl, hq, rfl, rfl, rfl, M1, ?_, p2⟩
      rw [e2]
      simp only [z_rI, Option.bind_some]
      rw [if_neg (show ¬ nI 1 = 0 by decide +kernel)]
      simp only [m_sel h, Option.bind_some, p1, z_rL]
theorem l_neg {n : Nat} (hn : n < 2 ^ 63) : ¬ lN n < lN 0 := fun q => by
  have := (pk_lLT hn (by omega)).mp q
  omega
theorem R_pla {M : q_M} {v : Nat → Nat} (h : SH M) (r : RI M v) (w : WC v) (x1 : Int32) (l : Int64) (x : Int32) : (¬ (∃ i n a, i < v 0 ∧ x1 = nI i ∧ n < cS v i ∧ l = lN n ∧ a < 3 ∧ x = nI a) ∧ q_CL 160 [.inr (.inr (some 49)), .inl x1, .inr (.inl l), .inl x] M = some (some (.inl (-1)), M)) ∨ (∃ i n a, i < v 0 ∧ x1 = nI i ∧ n < cS v i ∧ l = lN n ∧ a < 3 ∧ x = nI a ∧ ∃ M1, q_CL 160 [.inr (.inr (some 49)), .inl x1, .inr (.inl l), .inl x] M = some (some (.inl (nI (plI v i n a))), M1) ∧ FM M M1) := by
  have w0 := w.1
  rw [C_X12_place]
  simp only [m_sel h, Option.bind_some]
  rcases R_isC h r w x1 with ⟨hx, e⟩ | ⟨i, hi, rfl, e⟩
  · left
    refine ⟨fun ⟨i, _, _, a, b, _⟩ => hx ⟨i, a, b⟩, ?_⟩
    rw [e]; rfl
  · have hc := w.2 i hi
    have c61 := cS_62 hc
    have same : ∀ j, nI i = nI j → j < v 0 → i = j := fun j b hj => (nI_eq (by omega) (by omega)).mp b
    rw [e]
    simp only [z_rI, Option.bind_some]
    rw [if_neg (show ¬ nI 1 = 0 by decide +kernel)]
    simp only [lg_cmp_lt, lg_cmp_ge, m_sel h, Option.bind_some]
    by_cases hl : l < lN 0
    · left
      refine ⟨?_, if_pos hl⟩
      rintro ⟨j, n, a, hj, b, hn, rfl, _⟩
      have := same j b hj
      subst this
      exact l_neg (by omega) hl
    · rw [if_neg hl]
      obtain ⟨n, hn, rfl⟩ := pk_lOf hl
      rcases R_size h r w (nI i) with ⟨q, _⟩ | ⟨i2, hi2, q, e3⟩
      · exact absurd ⟨i, hi, rfl⟩ q
      · have := same i2 q hi2
        subst this
        rw [e3]
        simp only [z_rL, Option.bind_some, pk_lLE (show cS v i < 2 ^ 63 by omega) hn]
        by_cases hS : cS v i ≤ n
        · left
          refine ⟨?_, if_pos hS⟩
          rintro ⟨j, n2, a, hj, b, hn2, e4, _⟩
          have := same j b hj
          subst this
          have := (pk_lEQ hn (by omega)).mp e4
          omega
        · rw [if_neg hS]
          rcases pk_ix x (show 3 < 2 ^ 31 by omega) with hx | hx | ⟨a, ha, rfl⟩
          · left
            refine ⟨?_, if_pos hx⟩
            rintro ⟨j, n2, a, hj, b, hn2, e4, ha, rfl⟩
            exact nI_pos (by omega) hx
          · left
            refine ⟨?_, ?_⟩
            · rintro ⟨j, n2, a, hj, b, hn2, e4, ha, rfl⟩
              exact nI_ge ha (by omega) hx
            · by_cases h0 : x < 0
              · rw [if_pos h0]
              · rw [if_neg h0, if_neg]
                intro q
                have a1 : (nI 3).toInt ≤ x.toInt := Int32.le_iff_toInt_le.mp hx
                have a2 : x.toInt ≤ (nI 2).toInt := Int32.le_iff_toInt_le.mp q
                rw [nI_toInt (by omega)] at a1 a2
                omega
          · right
            obtain ⟨M1, p1, p2, p3⟩ := R_placed h r (show i < 8 by omega) hc (show n < cS v i by omega)
            refine ⟨i, n, a, hi, rfl, by omega, rfl, ha, rfl, M1, ?_, p2⟩
            have h1 := p2.sh h
            rw [if_neg (nI_pos (by omega)), if_pos (nI_le (by omega) (by omega))]
            simp only [m_sel h, p1, z_rV, Option.bind_some, m_lo h1, m_a3 h1 (Or.inl rfl) ha, p3 a ha]
/-! the widest gap -/
def dsN (p q : Nat → Nat) : Nat := (if q 0 ≤ p 0 then p 0 - q 0 else q 0 - p 0) + (if q 1 ≤ p 1 then p 1 - q 1 else q 1 - p 1) + (if q 2 ≤ p 2 then p 2 - q 2 else q 2 - p 2)
def gpN (v : Nat → Nat) (i n : Nat) : Nat → Nat
  | 0 => 0
  | j + 1 => if dsN (plI v i (n + (j + 1))) (plI v i (n + j)) ≤ gpN v i n j then gpN v i n j else dsN (plI v i (n + (j + 1))) (plI v i (n + j))
theorem l_sub {n S w : Nat} (hn : n < 2 ^ 63) (hS : S < 2 ^ 62) (hw : w ≤ 300) : lN n < lN S - lN w ↔ n + w < S := by
  by_cases h : w ≤ S
  · rw [lN_sub h, pk_lLT hn (by omega)]; omega
  · constructor
    · intro q
      have a : (lN n).toInt < (lN S - lN w).toInt := Int64.lt_iff_toInt_lt.mp q
      rw [← nI_l (show S < 2 ^ 31 by omega), ← nI_l (show w < 2 ^ 31 by omega), lg_i2l_sub, nI_toInt (by omega), nI_toInt (by omega), pk_lT hn] at a
      omega
    · intro q; omega
theorem dsN_le {v : Nat → Nat} {i : Nat} (hc : okI v i) {n m : Nat} (hn : n < cS v i) (hm : m < cS v i) : dsN (plI v i n) (plI v i m) < 2 ^ 22 ∧ (∀ a, a < 3 → plI v i n a < 2 ^ 20) := by
  have b : ∀ k, k < cS v i → ∀ a, a < 3 → plI v i k a < 2 ^ 20 := fun k hk a ha => by
    have := room_le hc ha
    have := plI_lt hc hk a ha
    omega
  have a0 := b n hn 0 (by omega)
  have a1 := b n hn 1 (by omega)
  have a2 := b n hn 2 (by omega)
  have c0 := b m hm 0 (by omega)
  have c1 := b m hm 1 (by omega)
  have c2 := b m hm 2 (by omega)
  refine ⟨?_, b n hn⟩
  unfold dsN
  have k0 : (if plI v i m 0 ≤ plI v i n 0 then plI v i n 0 - plI v i m 0 else plI v i m 0 - plI v i n 0) < 2 ^ 20 := by
    by_cases q : plI v i m 0 ≤ plI v i n 0
    · rw [if_pos q]; omega
    · rw [if_neg q]; omega
  have k1 : (if plI v i m 1 ≤ plI v i n 1 then plI v i n 1 - plI v i m 1 else plI v i m 1 - plI v i n 1) < 2 ^ 20 := by
    by_cases q : plI v i m 1 ≤ plI v i n 1
    · rw [if_pos q]; omega
    · rw [if_neg q]; omega
  have k2 : (if plI v i m 2 ≤ plI v i n 2 then plI v i n 2 - plI v i m 2 else plI v i m 2 - plI v i n 2) < 2 ^ 20 := by
    by_cases q : plI v i m 2 ≤ plI v i n 2
    · rw [if_pos q]; omega
    · rw [if_neg q]; omega
  omega
theorem gpN_le {v : Nat → Nat} {i : Nat} (hc : okI v i) {n : Nat} : ∀ j, n + j < cS v i → gpN v i n j < 2 ^ 22
  | 0, _ => by show 0 < 2 ^ 22; omega
  | j + 1, h => by
    show (if dsN (plI v i (n + (j + 1))) (plI v i (n + j)) ≤ gpN v i n j then gpN v i n j else dsN (plI v i (n + (j + 1))) (plI v i (n + j))) < 2 ^ 22
    have a := gpN_le hc j (show n + j < cS v i by omega)
    have b := (dsN_le hc (show n + (j + 1) < cS v i from h) (show n + j < cS v i by omega)).1
    by_cases q : dsN (plI v i (n + (j + 1))) (plI v i (n + j)) ≤ gpN v i n j
    · rw [if_pos q]; exact a
    · rw [if_neg q]; exact b
theorem R_gap {M : q_M} {v : Nat → Nat} (h : SH M) (r : RI M v) (w : WC v) (x1 : Int32) (l : Int64) (x : Int32) : (¬ (∃ i n a, i < v 0 ∧ x1 = nI i ∧ 1 ≤ a ∧ a ≤ 300 ∧ l = lN n ∧ n + a < cS v i ∧ x = nI a) ∧ q_CL 161 [.inr (.inr (some 49)), .inl x1, .inr (.inl l), .inl x] M = some (some (.inl (-1)), M)) ∨ (∃ i n a, i < v 0 ∧ x1 = nI i ∧ 1 ≤ a ∧ a ≤ 300 ∧ l = lN n ∧ n + a < cS v i ∧ x = nI a ∧ ∃ M1, q_CL 161 [.inr (.inr (some 49)), .inl x1, .inr (.inl l), .inl x] M = some (some (.inl (nI (gpN v i n a))), M1) ∧ FM M M1) := by
  have w0 := w.1
  rw [C_X12_gap]
  simp only [m_sel h, Option.bind_some]
  rcases R_isC h r w x1 with ⟨hx, e⟩ | ⟨i, hi, rfl, e⟩
  · left
    refine ⟨fun ⟨i, _, _, a, b, _⟩ => hx ⟨i, a, b⟩, ?_⟩
    rw [e]; rfl
  · have hc := w.2 i hi
    have c61 := cS_62 hc
    have same : ∀ j, nI i = nI j → j < v 0 → i = j := fun j b hj => (nI_eq (by omega) (by omega)).mp b
    rw [e]
    simp only [z_rI, Option.bind_some]
    rw [if_neg (show ¬ nI 1 = 0 by decide +kernel)]
    simp only [lg_cmp_lt, m_sel h, Option.bind_some]
    by_cases hx1 : x < nI 1
    · left
      refine ⟨?_, if_pos hx1⟩
      rintro ⟨j, n, a, hj, b, h1, h3, rfl, hn, rfl⟩
      exact nI_nlt h1 (by omega) hx1
    rw [if_neg hx1]
    by_cases hx3 : nI 300 < x
    · left
      refine ⟨?_, if_pos hx3⟩
      rintro ⟨j, n, a, hj, b, h1, h3, rfl, hn, rfl⟩
      exact nI_nlt h3 (by omega) hx3
    rw [if_neg hx3]
    obtain ⟨a, ha1, ha3, rfl⟩ : ∃ a, 1 ≤ a ∧ a ≤ 300 ∧ x = nI a := by
      rcases pk_ix x (show 301 < 2 ^ 31 by omega) with q | q | ⟨j, hj, rfl⟩
      · exact absurd (Int32.lt_iff_toInt_lt.mpr (by have := Int32.lt_iff_toInt_lt.mp q; rw [nI_toInt (by omega)]; have e0 : (0 : Int32).toInt = 0 := rfl; omega)) hx1
      · exact absurd (Int32.lt_iff_toInt_lt.mpr (by have := Int32.le_iff_toInt_le.mp q; rw [nI_toInt (by omega)] at *; omega)) hx3
      · refine ⟨j, ?_, by omega, rfl⟩
        rcases Nat.eq_zero_or_pos j with q | q
        · exact absurd (by rw [q]; decide +kernel) hx1
        · exact q
    by_cases hl : l < lN 0
    · left
      refine ⟨?_, if_pos hl⟩
      rintro ⟨j, n, a2, hj, b, h1, h3, rfl, hn, _⟩
      have := same j b hj
      subst this
      exact l_neg (by omega) hl
    rw [if_neg hl]
    obtain ⟨n, hn, rfl⟩ := pk_lOf hl
    rcases R_size h r w (nI i) with ⟨q, _⟩ | ⟨i2, hi2, q, e3⟩
    · exact absurd ⟨i, hi, rfl⟩ q
    have := same i2 q hi2
    subst this
    rw [e3]
    simp only [z_rL, Option.bind_some, nI_l (show a < 2 ^ 31 by omega), l_sub hn (show cS v i < 2 ^ 62 by omega) ha3]
    by_cases hS : n + a < cS v i
    · right
      refine ⟨i, n, a, hi, rfl, ha1, ha3, rfl, hS, rfl, ?_⟩
      rw [if_pos hS]
      obtain ⟨M1, p1, p2, p3⟩ := R_placed h r (show i < 8 by omega) hc (show n < cS v i by omega)
      have h1 := p2.sh h
      simp only [m_sel h, p1, z_rV, Option.bind_some, m_lo h1, m_a3 h1 (Or.inl rfl) (show 0 < 3 by omega), m_a3 h1 (Or.inl rfl) (show 1 < 3 by omega), m_a3 h1 (Or.inl rfl) (show 2 < 3 by omega), p3 0 (by omega), p3 1 (by omega), p3 2 (by omega)]
      have key : ∀ m j, j + m = a → ∀ M d3 d10, SH M → RI M v → ∃ M1, q_RL T_X12_gap (80, [some (.inr (.inr (some 49))), some (.inl (nI i)), some (.inr (.inl (lN n))), d3, some (.inl (nI a)), some (.inl (nI (gpN v i n j))), some (.inl (nI (plI v i (n + j) 0))), some (.inl (nI (plI v i (n + j) 1))), some (.inl (nI (plI v i (n + j) 2))), some (.inl (nI (j + 1))), d10], [], M) = some (some (.inl (nI (gpN v i n a))), M1) ∧ FM M M1 := by
        intro m
        induction m with
        | zero =>
          intro j hj M d3 d10 h r
          refine ⟨M, ?_, FM.rf M⟩
          rw [E_X12_gap_80, if_pos (nI_lt (by omega) (by omega)), show j = a by omega]
        | succ m ih =>
          intro j hj M d3 d10 h r
          obtain ⟨M1, p1, p2, p3⟩ := R_placed h r (show i < 8 by omega) hc (show n + (j + 1) < cS v i by omega)
          have h1 := p2.sh h
          have d := dsN_le hc (show n + (j + 1) < cS v i by omega) (show n + j < cS v i by omega)
          have d2 := (dsN_le hc (show n + j < cS v i by omega) (show n + j < cS v i by omega)).2
          have gl := gpN_le hc j (show n + j < cS v i by omega)
          have u0 := d.2 0 (by omega)
          have u1 := d.2 1 (by omega)
          have u2 := d.2 2 (by omega)
          have t0 := d2 0 (by omega)
          have t1 := d2 1 (by omega)
          have t2 := d2 2 (by omega)
          rw [E_X12_gap_80, if_neg (nI_nlt (by omega) (by omega)), nI_l (show j + 1 < 2 ^ 31 by omega), lN_add]
          simp only [m_sel h, p1, z_rV, Option.bind_some, m_lo h1, m_a3 h1 (Or.inl rfl) (show 0 < 3 by omega), m_a3 h1 (Or.inl rfl) (show 1 < 3 by omega), m_a3 h1 (Or.inl rfl) (show 2 < 3 by omega), p3 0 (by omega), p3 1 (by omega), p3 2 (by omega), R_off (show plI v i (n + (j + 1)) 0 < 2 ^ 31 by omega) (show plI v i (n + j) 0 < 2 ^ 31 by omega), R_off (show plI v i (n + (j + 1)) 1 < 2 ^ 31 by omega) (show plI v i (n + j) 1 < 2 ^ 31 by omega), R_off (show plI v i (n + (j + 1)) 2 < 2 ^ 31 by omega) (show plI v i (n + j) 2 < 2 ^ 31 by omega), z_rI, nI_add, nI_1]
          have ed : (if plI v i (n + j) 0 ≤ plI v i (n + (j + 1)) 0 then plI v i (n + (j + 1)) 0 - plI v i (n + j) 0 else plI v i (n + j) 0 - plI v i (n + (j + 1)) 0) + (if plI v i (n + j) 1 ≤ plI v i (n + (j + 1)) 1 then plI v i (n + (j + 1)) 1 - plI v i (n + j) 1 else plI v i (n + j) 1 - plI v i (n + (j + 1)) 1) + (if plI v i (n + j) 2 ≤ plI v i (n + (j + 1)) 2 then plI v i (n + (j + 1)) 2 - plI v i (n + j) 2 else plI v i (n + j) 2 - plI v i (n + (j + 1)) 2) = dsN (plI v i (n + (j + 1))) (plI v i (n + j)) := rfl
          rw [ed]
          by_cases hq : dsN (plI v i (n + (j + 1))) (plI v i (n + j)) ≤ gpN v i n j
          · rw [if_pos (nI_le hq (by omega))]
            obtain ⟨M2, w1, w2⟩ := ih (j + 1) (by omega) M1 d3 (some (.inl (nI (dsN (plI v i (n + (j + 1))) (plI v i (n + j)))))) h1 (p2.ri r)
            rw [show gpN v i n (j + 1) = gpN v i n j from if_pos hq] at w1
            exact ⟨M2, w1, p2.tr w2⟩
          · rw [if_neg (nI_ge (by omega) (by omega))]
            obtain ⟨M2, w1, w2⟩ := ih (j + 1) (by omega) M1 d3 (some (.inl (nI (dsN (plI v i (n + (j + 1))) (plI v i (n + j)))))) h1 (p2.ri r)
            rw [show gpN v i n (j + 1) = dsN (plI v i (n + (j + 1))) (plI v i (n + j)) from if_neg hq] at w1
            exact ⟨M2, w1, p2.tr w2⟩
      obtain ⟨M2, w1, w2⟩ := key a 0 (by omega) M1 none none h1 (p2.ri r)
      exact ⟨M2, w1, p2.tr w2⟩
    · left
      refine ⟨?_, if_neg hS⟩
      rintro ⟨j, n2, a2, hj, b, h1, h3, e4, hn2, e5⟩
      have := same j b hj
      subst this
      have := (pk_lEQ hn (by omega)).mp e4
      have := (nI_eq (by omega) (by omega)).mp e5
      omega
