/-! ===== THE REFERENCE: distances ===== -/
def ad (a b : Nat) : Nat := if b ≤ a then a - b else b - a
def dst (wy a b c : Nat) : Nat := if wy = 0 then a + b + c else if wy = 2 then a * a + b * b + c * c else if (if a ≤ b then b else a) ≤ c then c else (if a ≤ b then b else a)
theorem dst_b {wy a b c : Nat} (ha : a < 2 ^ 20) (hb : b < 2 ^ 20) (hc : c < 2 ^ 20) : dst wy a b c < 2 ^ 42 := by
  have q : ∀ x, x < 2 ^ 20 → x * x ≤ 2 ^ 40 := fun x hx => by
    have := Nat.mul_le_mul (show x ≤ 2 ^ 20 by omega) (show x ≤ 2 ^ 20 by omega)
    exact Nat.le_trans this (by decide)
  have := q a ha
  have := q b hb
  have := q c hc
  have : (if a ≤ b then b else a) < 2 ^ 20 := by split <;> omega
  unfold dst
  split
  · omega
  · split
    · omega
    · split <;> split <;> omega
theorem R_joins {M : q_M} {wy a b c : Nat} (hw : wy < 3) (ha : a < 2 ^ 20) (hb : b < 2 ^ 20) (hc : c < 2 ^ 20) : q_CL 204 [.inl (nI wy), .inr (.inl (lN a)), .inr (.inl (lN b)), .inr (.inl (lN c))] M = some (some (.inr (.inl (lN (dst wy a b c)))), M) := by
  rw [C_X12_joins]
  unfold dst
  rw [show (0 : Int32) = nI 0 from nI_0.symm]
  simp only [nI_eq (show wy < 2 ^ 31 by omega) (show 0 < 2 ^ 31 by omega), nI_eq (show wy < 2 ^ 31 by omega) (show 2 < 2 ^ 31 by omega), lN_add, lN_mul]
  rw [show nI 0 = (0 : Int32) from nI_0]
  simp only [lg_cmp_le, pk_lLE (show a < 2 ^ 63 by omega) (show b < 2 ^ 63 by omega), pk_lLE (show b < 2 ^ 63 by omega) (show c < 2 ^ 63 by omega), pk_lLE (show a < 2 ^ 63 by omega) (show c < 2 ^ 63 by omega)]
  by_cases c0 : wy = 0
  · simp only [if_pos c0]
  by_cases c2 : wy = 2
  · simp only [if_neg c0, if_pos c2]
  simp only [if_neg c0, if_neg c2]
  by_cases q : a ≤ b
  · simp only [if_pos q]
    by_cases q2 : b ≤ c
    · simp only [if_pos q2]
    · simp only [if_neg q2]
  · simp only [if_neg q]
    by_cases q2 : a ≤ c
    · simp only [if_pos q2]
    · simp only [if_neg q2]
/-- where the search stands -/
def HI (M : q_M) (g : Nat → Nat) : Prop := ∀ a, a < 3 → gI M 59 a = nI (g a) ∧ g a < 2 ^ 20
theorem m_he {M : q_M} (h : SH M) : q_fR M 12 49 14 = some (some 59) := m_fR h (by decide)
theorem m_a59 {M : q_M} (h : SH M) {k : Nat} (hk : k < 3) : q_aI M 14 59 (nI k) = some (gI M 59 k) := y_aI h (by omega) (by omega) rfl hk (by decide)
theorem m_b59 {M : q_M} (h : SH M) {k : Nat} {x : Int32} (hk : k < 3) : q_bI M 14 59 (nI k) x = some (stI M 59 k x) := y_bI h (by omega) (by omega) rfl hk (by decide)
theorem R_stands {M : q_M} (h : SH M) {g : Nat → Nat} (hg : ∀ a, a < 3 → g a < 2 ^ 20) : ∃ M1, q_CL 205 [.inr (.inr (some 49)), .inl (nI (g 0)), .inl (nI (g 1)), .inl (nI (g 2))] M = some (none, M1) ∧ fr (fun a _ => a = 59) M M1 ∧ HI M1 g := by
  have hA : SH (stI M 59 0 (nI (g 0))) := h
  have hB : SH (stI (stI M 59 0 (nI (g 0))) 59 1 (nI (g 1))) := h
  refine ⟨stI (stI (stI M 59 0 (nI (g 0))) 59 1 (nI (g 1))) 59 2 (nI (g 2)), ?_, (((fr.rf (fun a _ => a = 59) M).st rfl).st rfl).st rfl, fun a ha => ⟨?_, hg a ha⟩⟩
  · rw [C_X12_stands]
    simp only [m_he h, Option.bind_some, m_b59 h (show 0 < 3 by omega), m_he hA, m_b59 hA (show 1 < 3 by omega), m_he hB, m_b59 hB (show 2 < 3 by omega)]
  · rcases (show a = 0 ∨ a = 1 ∨ a = 2 by omega) with rfl | rfl | rfl
    · rw [gI_oth (by omega), gI_oth (by omega), gI_self]
    · rw [gI_oth (by omega), gI_self]
    · rw [gI_self]
/-- how far point p is -/
def dsP (v : Nat → Nat) (o : Nat) (g : Nat → Nat) (wy p : Nat) : Nat := dst wy (ad (v (o + 4 + 6 * p + (1 + 0))) (g 0)) (ad (v (o + 4 + 6 * p + (1 + 1))) (g 1)) (ad (v (o + 4 + 6 * p + (1 + 2))) (g 2))
theorem ad_b {a b B : Nat} (ha : a < B) (hb : b < B) : ad a b < B := by unfold ad; split <;> omega
theorem dsP_b {v : Nat → Nat} {o : Nat} {g : Nat → Nat} {wy p : Nat} (hp : ∀ a, a < 3 → v (o + 4 + 6 * p + (1 + a)) < 2 ^ 20) (hg : ∀ a, a < 3 → g a < 2 ^ 20) : dsP v o g wy p < 2 ^ 42 := dst_b (ad_b (hp 0 (by omega)) (hg 0 (by omega))) (ad_b (hp 1 (by omega)) (hg 1 (by omega))) (ad_b (hp 2 (by omega)) (hg 2 (by omega)))
theorem R_far {v : Nat → Nat} {M : q_M} (h : SH M) (r : RI M v) {o : Nat} (ho : 1100 ≤ o ∧ o + 2110 ≤ 60180) (eo : gI M 49 13 = nI o) {g : Nat → Nat} (hh : HI M g) {wy p : Nat} (hw : wy < 3) (hp : p ≤ 300) (hb : ∀ a, a < 3 → v (o + 4 + 6 * p + (1 + a)) < 2 ^ 20) : q_CL 206 [.inr (.inr (some 49)), .inl (nI p), .inl (nI wy)] M = some (some (.inr (.inl (lN (dsP v o g wy p)))), M) := by
  have a0 := ad_b (hb 0 (by omega)) (hh 0 (by omega)).2
  have a1 := ad_b (hb 1 (by omega)) (hh 1 (by omega)).2
  have a2 := ad_b (hb 2 (by omega)) (hh 2 (by omega)).2
  have b0 : v (o + 4 + 6 * p + 1) < 2 ^ 20 := hb 0 (by omega)
  have b1 : v (o + 4 + 6 * p + 2) < 2 ^ 20 := hb 1 (by omega)
  have b2 : v (o + 4 + 6 * p + 3) < 2 ^ 20 := hb 2 (by omega)
  have g0 := (hh 0 (by omega)).2
  have g1 := (hh 1 (by omega)).2
  have g2 := (hh 2 (by omega)).2
  have O0 : q_CL 162 [.inl (nI (v (o + 4 + 6 * p + 1))), .inl (nI (g 0))] M = some (some (.inl (nI (ad (v (o + 4 + 6 * p + (1 + 0))) (g 0)))), M) := R_off (by omega) (by omega)
  have O1 : q_CL 162 [.inl (nI (v (o + 4 + 6 * p + 2))), .inl (nI (g 1))] M = some (some (.inl (nI (ad (v (o + 4 + 6 * p + (1 + 1))) (g 1)))), M) := R_off (by omega) (by omega)
  have O2 : q_CL 162 [.inl (nI (v (o + 4 + 6 * p + 3))), .inl (nI (g 2))] M = some (some (.inl (nI (ad (v (o + 4 + 6 * p + (1 + 2))) (g 2)))), M) := R_off (by omega) (by omega)
  rw [C_X12_far]
  simp only [m_sel h, Option.bind_some, R_point h r ho eo hp (show 1 < 6 by omega), R_point h r ho eo hp (show 2 < 6 by omega), R_point h r ho eo hp (show 3 < 6 by omega), z_rL, m_he h, m_a59 h (show 0 < 3 by omega), m_a59 h (show 1 < 3 by omega), m_a59 h (show 2 < 3 by omega), (hh 0 (by omega)).1, (hh 1 (by omega)).1, (hh 2 (by omega)).1, lN_i, O0, O1, O2, z_rI, nI_l (Nat.lt_trans a0 (by decide : 2 ^ 20 < 2 ^ 31)), nI_l (Nat.lt_trans a1 (by decide : 2 ^ 20 < 2 ^ 31)), nI_l (Nat.lt_trans a2 (by decide : 2 ^ 20 < 2 ^ 31)), R_joins hw a0 a1 a2]
  rfl
/-- how far a box is, on an axis -/
def ouv (x lo hi : Nat) : Nat := if lo ≤ x then (if x ≤ hi then 0 else x - hi) else lo - x
theorem R_out {M : q_M} {x lo hi : Nat} (hx : x < 2 ^ 31) (hl : lo < 2 ^ 31) (hh : hi < 2 ^ 31) : q_CL 207 [.inl (nI x), .inl (nI lo), .inl (nI hi)] M = some (some (.inl (nI (ouv x lo hi))), M) := by
  rw [C_X12_outside]
  unfold ouv
  simp only [nI_leI hl hx, nI_leI hx hh]
  by_cases q : lo ≤ x
  · simp only [if_pos q]
    by_cases q2 : x ≤ hi
    · simp only [if_pos q2]
    · simp only [if_neg q2]
      rw [pk_sub (by omega)]
  · simp only [if_neg q]
    rw [pk_sub (by omega)]
def bxF (v : Nat → Nat) (o : Nat) (g : Nat → Nat) (wy k : Nat) : Nat := dst wy (ouv (g 0) (lwP v o (psm v o k) 0 (v (o + 1804 + k))) (hwP v o (psm v o k) 0 (v (o + 1804 + k)))) (ouv (g 1) (lwP v o (psm v o k) 1 (v (o + 1804 + k))) (hwP v o (psm v o k) 1 (v (o + 1804 + k)))) (ouv (g 2) (lwP v o (psm v o k) 2 (v (o + 1804 + k))) (hwP v o (psm v o k) 2 (v (o + 1804 + k))))
theorem lh_b2 {v : Nat → Nat} {o f a B : Nat} : ∀ n, 1 ≤ n → (∀ y, y < n → v (o + 4 + 6 * (f + y) + (1 + a)) < B) → lwP v o f a n < B ∧ hwP v o f a n < B
  | 0, h, _ => by omega
  | n + 1, _, h => by
    have hn := h n (by omega)
    have ih : lwP v o f a n < B ∧ hwP v o f a n < B := by
      rcases Nat.eq_zero_or_pos n with z | z
      · subst z
        exact ⟨hn, hn⟩
      · exact lh_b2 n z (fun y hy => h y (by omega))
    unfold lwP hwP
    refine ⟨?_, ?_⟩
    · split
      · exact hn
      · exact ih.1
    · split
      · exact hn
      · exact ih.2
theorem bxF_b {v : Nat → Nat} {i o : Nat} (s : SW v i o) (hc : okI v i) {g : Nat → Nat} (hg : ∀ a, a < 3 → g a < 2 ^ 20) {wy k : Nat} (hk : k < v (o + 3)) : (∀ a, a < 3 → lwP v o (psm v o k) a (v (o + 1804 + k)) < 2 ^ 20 ∧ hwP v o (psm v o k) a (v (o + 1804 + k)) < 2 ^ 20) ∧ bxF v o g wy k < 2 ^ 42 := by
  have l : ∀ a, a < 3 → lwP v o (psm v o k) a (v (o + 1804 + k)) < 2 ^ 20 ∧ hwP v o (psm v o k) a (v (o + 1804 + k)) < 2 ^ 20 := fun a ha => lh_b2 _ (s.2.2.2.1 k hk).1 fun y hy => s.pt hc (by have := s.pg hk; omega) ha
  have u : ∀ a, a < 3 → ouv (g a) (lwP v o (psm v o k) a (v (o + 1804 + k))) (hwP v o (psm v o k) a (v (o + 1804 + k))) < 2 ^ 20 := fun a ha => by
    have := l a ha
    have := hg a ha
    unfold ouv
    split
    · split <;> omega
    · omega
  exact ⟨l, dst_b (u 0 (by omega)) (u 1 (by omega)) (u 2 (by omega))⟩
theorem R_bxF {v : Nat → Nat} {i o : Nat} (s : SW v i o) (hc : okI v i) {M : q_M} (h : SH M) (r : RI M v) (ho : 1100 ≤ o ∧ o + 2110 ≤ 60180) (eo : gI M 49 13 = nI o) {g : Nat → Nat} (hh : HI M g) {wy k : Nat} (hw : wy < 3) (hk : k < v (o + 3)) : ∃ M1, q_CL 208 [.inr (.inr (some 49)), .inl (nI k), .inl (nI wy)] M = some (some (.inr (.inl (lN (bxF v o g wy k)))), M1) ∧ fr b56 M M1 := by
  have s1 := s.1
  have s2 := s.2.1
  have hpg := s.pg hk
  obtain ⟨l, _⟩ := bxF_b s hc (g := g) (fun a ha => (hh a ha).2) (wy := wy) hk
  obtain ⟨M1, b1, b2, b3⟩ := R_bnd h r ho eo (k := k) (f := psm v o k) (n := v (o + 1804 + k)) (by omega) rfl rfl (s.2.2.2.1 k hk).1 (by omega) (fun y a hy ha => by have := s.pt hc (show y < v (o + 2) by omega) ha; omega)
  have h1 := b2.sh h
  have e59 : ∀ a, a < 3 → gI M1 59 a = nI (g a) := fun a ha => (b2.2.2.2 59 a (by unfold b56; omega)).trans (hh a ha).1
  have u : ∀ a, a < 3 → ouv (g a) (lwP v o (psm v o k) a (v (o + 1804 + k))) (hwP v o (psm v o k) a (v (o + 1804 + k))) < 2 ^ 20 := fun a ha => by
    have := l a ha
    have := (hh a ha).2
    unfold ouv
    split
    · split <;> omega
    · omega
  have u0 := u 0 (by omega)
  have u1 := u 1 (by omega)
  have u2 := u 2 (by omega)
  have O : ∀ a, a < 3 → q_CL 207 [.inl (nI (g a)), .inl (nI (lwP v o (psm v o k) a (v (o + 1804 + k)))), .inl (nI (hwP v o (psm v o k) a (v (o + 1804 + k))))] M1 = some (some (.inl (nI (ouv (g a) (lwP v o (psm v o k) a (v (o + 1804 + k))) (hwP v o (psm v o k) a (v (o + 1804 + k)))))), M1) := fun a ha => by
    have := l a ha
    have := (hh a ha).2
    exact R_out (by omega) (by omega) (by omega)
  refine ⟨M1, ?_, b2⟩
  rw [C_X12_boxFar]
  simp only [m_sel h, Option.bind_some, b1, z_rV, m_he h1, m_lo h1, m_hi h1, m_a59 h1 (show 0 < 3 by omega), m_a59 h1 (show 1 < 3 by omega), m_a59 h1 (show 2 < 3 by omega), m_a3 h1 (Or.inl rfl) (show 0 < 3 by omega), m_a3 h1 (Or.inl rfl) (show 1 < 3 by omega), m_a3 h1 (Or.inl rfl) (show 2 < 3 by omega), m_a3 h1 (Or.inr (Or.inl rfl)) (show 0 < 3 by omega), m_a3 h1 (Or.inr (Or.inl rfl)) (show 1 < 3 by omega), m_a3 h1 (Or.inr (Or.inl rfl)) (show 2 < 3 by omega), e59 0 (by omega), e59 1 (by omega), e59 2 (by omega), (b3 0 (by omega)).1, (b3 0 (by omega)).2, (b3 1 (by omega)).1, (b3 1 (by omega)).2, (b3 2 (by omega)).1, (b3 2 (by omega)).2, O 0 (by omega), O 1 (by omega), O 2 (by omega), z_rI, nI_l (Nat.lt_trans u0 (by decide : 2 ^ 20 < 2 ^ 31)), nI_l (Nat.lt_trans u1 (by decide : 2 ^ 20 < 2 ^ 31)), nI_l (Nat.lt_trans u2 (by decide : 2 ^ 20 < 2 ^ 31)), R_joins hw u0 u1 u2, z_rL]
  rfl
/-! ===== THE REFERENCE: the nearest that is not taken ===== -/
/-- point i is nearer than point j, or as near and of a lesser name -/
def kL (v : Nat → Nat) (o : Nat) (g : Nat → Nat) (wy i j : Nat) : Bool := decide (dsP v o g wy i < dsP v o g wy j ∨ (dsP v o g wy i = dsP v o g wy j ∧ v (o + 4 + 6 * i) < v (o + 4 + 6 * j)))
theorem kL_o {v : Nat → Nat} {o : Nat} {g : Nat → Nat} {wy m : Nat} (hn : ∀ p q, p < q → q < m → v (o + 4 + 6 * p) ≠ v (o + 4 + 6 * q)) : Ord (kL v o g wy) m := by
  unfold kL
  refine ⟨fun i hi => by simp, fun i j hi hj ne => ?_, fun i j k hi hj hk a b => ?_⟩
  · simp only [decide_eq_true_eq]
    have : v (o + 4 + 6 * i) ≠ v (o + 4 + 6 * j) := by
      rcases Nat.lt_or_ge i j with q | q
      · exact hn i j q hj
      · exact fun z => hn j i (by omega) hi z.symm
    omega
  · simp only [decide_eq_true_eq] at *
    omega
def bN (b : Bool) : Nat := if b = true then 1 else 0
theorem bN_b (b : Bool) : bN b < 2 ^ 31 := by unfold bN; split <;> omega
/-- marks of points, marks of pages -/
def TI (M : q_M) (c : Nat) (t : Nat → Bool) : Prop := ∀ i, i < 300 → gI M c i = nI (bN (t i))
theorem m_tk {M : q_M} (h : SH M) : q_fR M 12 49 15 = some (some 60) := m_fR h (by decide)
theorem m_rd {M : q_M} (h : SH M) : q_fR M 12 49 16 = some (some 61) := m_fR h (by decide)
theorem m_a16 {M : q_M} (h : SH M) {c k : Nat} (hc : c = 60 ∨ c = 61) (hk : k < 300) : q_aI M 16 c (nI k) = some (gI M c k) := by
  rcases hc with rfl | rfl <;> exact y_aI h (by omega) (by omega) rfl hk (by decide)
theorem m_b16 {M : q_M} (h : SH M) {c k : Nat} {x : Int32} (hc : c = 60 ∨ c = 61) (hk : k < 300) : q_bI M 16 c (nI k) x = some (stI M c k x) := by
  rcases hc with rfl | rfl <;> exact y_bI h (by omega) (by omega) rfl hk (by decide)
theorem TI_st {M : q_M} {c k : Nat} {t : Nat → Bool} (hk : k < 300) (h : TI M c t) (b : Bool) : TI (stI M c k (nI (bN b))) c (fun i => if i = k then b else t i) := fun i hi => by
  by_cases q : i = k
  · subst q
    simp only [if_pos rfl]
    exact gI_self
  · simp only [if_neg q]
    rw [gI_oth (by omega)]
    exact h i hi
theorem TI.fr {P : Nat → Nat → Prop} {M M1 : q_M} (f : fr P M M1) {c : Nat} (hc : ∀ k, ¬ P c k) {t : Nat → Bool} (h : TI M c t) : TI M1 c t := fun i hi => (f.2.2.2 c i (hc i)).trans (h i hi)
theorem HI.fr {P : Nat → Nat → Prop} {M M1 : q_M} (f : fr P M M1) (hc : ∀ k, ¬ P 59 k) {g : Nat → Nat} (h : HI M g) : HI M1 g := fun i hi => ⟨(f.2.2.2 59 i (hc i)).trans (h i hi).1, (h i hi).2⟩
theorem R_none {M : q_M} (h : SH M) : ∃ M1, q_CL 210 [.inr (.inr (some 49))] M = some (none, M1) ∧ fr (fun a _ => a = 60) M M1 ∧ TI M1 60 (fun _ => false) := by
  rw [C_X12_none]
  have key : ∀ n y, y + n = 300 → ∀ M, SH M → (∀ i, i < y → gI M 60 i = nI (bN false)) → ∃ M1, q_RL T_X12_none (2, [some (.inr (.inr (some 49))), some (.inl (nI y))], [], M) = some (none, M1) ∧ fr (fun a _ => a = 60) M M1 ∧ TI M1 60 (fun _ => false) := by
    intro n
    induction n with
    | zero =>
      intro y hy M h e
      refine ⟨M, ?_, fr.rf _ M, fun i hi => e i (by omega)⟩
      rw [E_X12_none_2, if_pos (nI_le (by omega) (by omega))]
    | succ n ih =>
      intro y hy M h e
      obtain ⟨M1, p1, p2, p3⟩ := ih (y + 1) (by omega) (stI M 60 y (nI (bN false))) h (fun i hi => by
        by_cases q : i = y
        · subst q; exact gI_self
        · rw [gI_oth (by omega)]; exact e i (by omega))
      refine ⟨M1, ?_, ((fr.rf (fun a _ => a = 60) M).st rfl).tr p2, p3⟩
      rw [E_X12_none_2, if_neg (nI_ge (by omega) (by omega))]
      simp only [m_tk h, Option.bind_some, m_b16 h (Or.inl rfl) (show y < 300 by omega), nI_1, show nI 0 &&& 1 = nI (bN false) by decide +kernel, p1]
  exact key 300 0 (by omega) M h (fun i hi => by omega)
/-- minus one, or the number -/
def oI (r : Option Nat) : Int32 := match r with
  | none => -1
  | some b => nI b
/-- point i is on a page that is marked -/
def onR (v : Nat → Nat) (o : Nat) (rd : Nat → Bool) (i : Nat) : Nat → Bool
  | 0 => false
  | P + 1 => onR v o rd i P || (decide (psm v o P ≤ i ∧ i < psm v o (P + 1)) && rd P)
theorem psm_mo {v : Nat → Nat} {o : Nat} : ∀ {a b : Nat}, a ≤ b → psm v o a ≤ psm v o b
  | a, 0, h => by rw [show a = 0 by omega]; exact Nat.le_refl _
  | a, b + 1, h => by
    by_cases q : a = b + 1
    · rw [q]; exact Nat.le_refl _
    · exact Nat.le_trans (psm_mo (show a ≤ b by omega)) (Nat.le_add_right _ _)
theorem pgAt_eq {v : Nat → Nat} {o i g k : Nat} (a : psm v o g ≤ i ∧ i < psm v o (g + 1)) (b : psm v o k ≤ i ∧ i < psm v o (k + 1)) : g = k := by
  rcases Nat.lt_trichotomy g k with q | q | q
  · have := psm_mo (v := v) (o := o) (show g + 1 ≤ k by omega); omega
  · exact q
  · have := psm_mo (v := v) (o := o) (show k + 1 ≤ g by omega); omega
theorem onR_at {v : Nat → Nat} {o : Nat} {rd : Nat → Bool} {i g : Nat} (a : psm v o g ≤ i ∧ i < psm v o (g + 1)) : ∀ P, onR v o rd i P = (decide (g < P) && rd g)
  | 0 => by simp [onR]
  | P + 1 => by
    unfold onR
    rw [onR_at a P]
    by_cases q : g = P
    · subst q
      simp [a]
    · have : ¬ (psm v o P ≤ i ∧ i < psm v o (P + 1)) := fun z => q (pgAt_eq a z)
      simp only [this, decide_false, Bool.false_and, Bool.or_false]
      by_cases q2 : g < P
      · simp [q2, show g < P + 1 by omega]
      · simp [q2, show ¬ g < P + 1 by omega]
/-- who may be taken: untaken, and, if told, on a read page -/
def eL (v : Nat → Nat) (o : Nat) (tk rd : Nat → Bool) (told : Bool) (i : Nat) : Bool := !tk i && (!told || onR v o rd i (v (o + 3)))
theorem bN0 {b : Bool} : (nI (bN b) = 0) ↔ b = false := by
  cases b <;> decide +kernel
/-- marks of the pages that there are -/
def TP (M : q_M) (P : Nat) (t : Nat → Bool) : Prop := ∀ k, k < P → gI M 61 k = nI (bN (t k))
/-- the choice between two -/
theorem R_nO45 {v : Nat → Nat} {i o : Nat} (s : SW v i o) (hc : okI v i) {M : q_M} (h : SH M) (r : RI M v) (ho : 1100 ≤ o ∧ o + 2110 ≤ 60180) (eo : gI M 49 13 = nI o) {g : Nat → Nat} (hh : HI M g) {wy : Nat} (hw : wy < 3) {x2 : Int32} {E : Nat → Bool} {y : Nat} (hy : y < v (o + 2)) {b : Option Nat} (f : Fst (kL v o g wy) E y b) (e : E y = true) : ∃ b', Fst (kL v o g wy) E (y + 1) b' ∧ q_RL T_X12_nearestOf (45, [some (.inr (.inr (some 49))), some (.inl (nI wy)), some (.inl x2), some (.inl (oI b)), some (.inl (nI y))], [], M) = q_RL T_X12_nearestOf (5, [some (.inr (.inr (some 49))), some (.inl (nI wy)), some (.inl x2), some (.inl (oI b')), some (.inl (nI (y + 1)))], [], M) := by
  have s1 := s.1
  have s5 := s.2.2.2.2.1
  have oL : Ord (kL v o g wy) (v (o + 2)) := kL_o fun p q hp hq => (s.2.2.2.2.2 p q hp hq).1
  have hg : ∀ a, a < 3 → g a < 2 ^ 20 := fun a ha => (hh a ha).2
  rw [E_X12_nearestOf_45]
  cases b with
  | none =>
    refine ⟨some y, Fst_n0 f e, ?_⟩
    rw [if_pos (show oI none = -1 from rfl), nI_1]
    rfl
  | some b =>
    have hb := f.1
    have d1 := dsP_b (v := v) (o := o) (g := g) (wy := wy) (p := y) (fun a ha => s.pt hc hy ha) hg
    have d2 := dsP_b (v := v) (o := o) (g := g) (wy := wy) (p := b) (fun a ha => s.pt hc (by omega) ha) hg
    have n1 := (s5 y hy).1
    have n2 := (s5 b (by omega)).1
    have p0 := R_point h r ho eo (p := y) (k := 0) (by omega) (by omega)
    have p1 := R_point h r ho eo (p := b) (k := 0) (by omega) (by omega)
    rw [if_neg (show ¬ oI (some b) = -1 from nI_nm1 (by omega)), show oI (some b) = nI b from rfl]
    simp only [m_sel h, Option.bind_some, R_far h r ho eo hh hw (show y ≤ 300 by omega) (fun a ha => s.pt hc hy ha), R_far h r ho eo hh hw (show b ≤ 300 by omega) (fun a ha => s.pt hc (show b < v (o + 2) by omega) ha), z_rL, p0, p1, lg_cmp_lt, lg_cmp_eq, lg_cmp_ge, pk_lLT (show dsP v o g wy y < 2 ^ 63 by omega) (show dsP v o g wy b < 2 ^ 63 by omega), pk_lEQ (show dsP v o g wy y < 2 ^ 63 by omega) (show dsP v o g wy b < 2 ^ 63 by omega), pk_lLE (show v (o + 4 + 6 * b + 0) < 2 ^ 63 by rw [Nat.add_zero]; omega) (show v (o + 4 + 6 * y + 0) < 2 ^ 63 by rw [Nat.add_zero]; omega), nI_1]
    by_cases c1 : dsP v o g wy y < dsP v o g wy b
    · refine ⟨some y, Fst_lt oL hy f e (by unfold kL; simp [c1]), ?_⟩
      rw [if_pos c1]; rfl
    rw [if_neg c1]
    by_cases c2 : dsP v o g wy y = dsP v o g wy b
    · rw [if_pos c2]
      by_cases c3 : v (o + 4 + 6 * b) ≤ v (o + 4 + 6 * y)
      · have ne := (s.2.2.2.2.2 b y hb hy).1
        refine ⟨some b, Fst_ge f (by unfold kL; simp only [decide_eq_true_eq]; omega), ?_⟩
        rw [if_pos (show v (o + 4 + 6 * b + 0) ≤ v (o + 4 + 6 * y + 0) from c3)]; rfl
      · refine ⟨some y, Fst_lt oL hy f e (by unfold kL; simp only [decide_eq_true_eq]; omega), ?_⟩
        rw [if_neg (show ¬ v (o + 4 + 6 * b + 0) ≤ v (o + 4 + 6 * y + 0) from c3)]; rfl
    · rw [if_neg c2]
      refine ⟨some b, Fst_ge f (by unfold kL; simp only [decide_eq_true_eq]; omega), rfl⟩
theorem R_nO {v : Nat → Nat} {i o : Nat} (s : SW v i o) (hc : okI v i) {M : q_M} (h : SH M) (r : RI M v) (ho : 1100 ≤ o ∧ o + 2110 ≤ 60180) (eo : gI M 49 13 = nI o) {g : Nat → Nat} (hh : HI M g) {wy : Nat} (hw : wy < 3) {tk rd : Nat → Bool} (t1 : TI M 60 tk) (told : Bool) (t2 : told = false ∨ TP M (v (o + 3)) rd) : ∃ b, Fst (kL v o g wy) (eL v o tk rd told) (v (o + 2)) b ∧ q_CL 209 [.inr (.inr (some 49)), .inl (nI wy), .inl (nI (bN told))] M = some (some (.inl (oI b)), M) := by
  have s1 := s.1
  have s2 := s.2.1
  have s3 := s.2.2.1
  rw [C_X12_nearestOf]
  have key : ∀ n y, y + n = v (o + 2) → ∀ b, Fst (kL v o g wy) (eL v o tk rd told) y b → ∃ b', Fst (kL v o g wy) (eL v o tk rd told) (v (o + 2)) b' ∧ q_RL T_X12_nearestOf (5, [some (.inr (.inr (some 49))), some (.inl (nI wy)), some (.inl (nI (bN told))), some (.inl (oI b)), some (.inl (nI y))], [], M) = some (some (.inl (oI b')), M) := by
    intro n
    induction n with
    | zero =>
      intro y hy b f
      refine ⟨b, by rw [← hy]; exact f, ?_⟩
      rw [E_X12_nearestOf_5]
      simp only [m_sel h, Option.bind_some, (R_fld h r ho eo).1, z_rI]
      rw [if_pos (nI_le (by omega) (by omega))]
    | succ n ih =>
      intro y hy b f
      have hy2 : y < v (o + 2) := by omega
      obtain ⟨k, k1, k2, k3, k4⟩ := R_pgOf h r ho eo (p := y) (P := v (o + 3)) (by omega) (by omega) (by omega)
      have eR := onR_at (rd := rd) ⟨k2, k3⟩ (v (o + 3))
      rw [show decide (k < v (o + 3)) = true from decide_eq_true k1, Bool.true_and] at eR
      rw [E_X12_nearestOf_5]
      simp only [m_sel h, Option.bind_some, (R_fld h r ho eo).1, z_rI, m_tk h, m_a16 h (Or.inl rfl) (show y < 300 by omega), t1 y (by omega), bN0, m_rd h, k4, nI_1]
      rw [if_neg (nI_ge hy2 (by omega))]
      have no : eL v o tk rd told y = false → ∃ b', Fst (kL v o g wy) (eL v o tk rd told) (v (o + 2)) b' ∧ q_RL T_X12_nearestOf (5, [some (.inr (.inr (some 49))), some (.inl (nI wy)), some (.inl (nI (bN told))), some (.inl (oI b)), some (.inl (nI (y + 1)))], [], M) = some (some (.inl (oI b')), M) := fun e => ih (y + 1) (by omega) b (Fst_no f e)
      have yes : eL v o tk rd told y = true → ∃ b', Fst (kL v o g wy) (eL v o tk rd told) (v (o + 2)) b' ∧ q_RL T_X12_nearestOf (45, [some (.inr (.inr (some 49))), some (.inl (nI wy)), some (.inl (nI (bN told))), some (.inl (oI b)), some (.inl (nI y))], [], M) = some (some (.inl (oI b')), M) := fun e => by
        obtain ⟨b1, f1, e1⟩ := R_nO45 s hc h r ho eo hh hw (x2 := nI (bN told)) hy2 f e
        obtain ⟨b2, f2, e2⟩ := ih (y + 1) (by omega) b1 f1
        exact ⟨b2, f2, e1.trans e2⟩
      cases et : tk y with
      | true =>
        rw [if_neg (by simp)]
        exact no (by unfold eL; rw [et]; rfl)
      | false =>
        rw [if_pos rfl]
        cases told with
        | false =>
          rw [if_pos rfl]
          exact yes (by unfold eL; rw [et]; rfl)
        | true =>
          rw [if_neg (by simp)]
          simp only [m_a16 h (Or.inr rfl) (show k < 300 by omega), Option.bind_some, (t2.resolve_left (by simp)) k k1, bN0]
          cases er : rd k with
          | false =>
            rw [if_pos rfl]
            exact no (by unfold eL; rw [et, eR, er]; rfl)
          | true =>
            rw [if_neg (by simp)]
            exact yes (by unfold eL; rw [et, eR, er]; rfl)
  exact key (v (o + 2)) 0 (by omega) none (Fst_0 _ _)
/-! ===== THE REFERENCE: the n-th nearest ===== -/
/-- minus one, or the number -/
def oL (r : Option Nat) : Int64 := match r with
  | none => -1
  | some b => lN b
/-- who is in E and of rank below k -/
def tkK (v : Nat → Nat) (o : Nat) (g : Nat → Nat) (wy : Nat) (E : Nat → Bool) (k i : Nat) : Bool := decide (i < v (o + 2)) && (E i && decide (rk (kL v o g wy) (v (o + 2)) E i < k))
/-- the n-th nearest of E, if there are so many: how far it is -/
def nth (v : Nat → Nat) (o : Nat) (g : Nat → Nat) (wy : Nat) (E : Nat → Bool) (n : Nat) (r : Option Nat) : Prop := match r with
  | none => cnt E (v (o + 2)) < n
  | some d => n ≤ cnt E (v (o + 2)) ∧ ∃ i, i < v (o + 2) ∧ E i = true ∧ rk (kL v o g wy) (v (o + 2)) E i + 1 = n ∧ d = dsP v o g wy i
/-- the next one has rank k, or there are but k -/
theorem nx_rk {v : Nat → Nat} {o : Nat} {g : Nat → Nat} {wy : Nat} (oR : Ord (kL v o g wy) (v (o + 2))) {E F : Nat → Bool} {k : Nat} (eF : ∀ i, i < v (o + 2) → F i = (!tkK v o g wy E k i && E i)) {b : Option Nat} (f : Fst (kL v o g wy) F (v (o + 2)) b) : match b with
    | none => cnt E (v (o + 2)) ≤ k
    | some b => b < v (o + 2) ∧ E b = true ∧ rk (kL v o g wy) (v (o + 2)) E b = k := by
  cases b with
  | none =>
    show cnt E (v (o + 2)) ≤ k
    rcases Nat.lt_or_ge k (cnt E (v (o + 2))) with q | q
    · exfalso
      obtain ⟨i, i1, i2, i3⟩ := rk_ex oR q
      have := f i i1
      rw [eF i i1] at this
      unfold tkK at this
      rw [i2, i3] at this
      simp at this
    · exact q
  | some b =>
    obtain ⟨f1, f2, f3⟩ := f
    rw [eF b f1] at f2
    unfold tkK at f2
    simp only [Bool.and_eq_true, Bool.not_eq_true', decide_eq_true_eq] at f2
    obtain ⟨f4, f5⟩ := f2
    rw [f5] at f4
    simp [f1] at f4
    refine ⟨f1, f5, rk_nx oR f1 f5 (by omega) fun j hj ej hk ne => f3 j hj ?_ ne⟩
    rw [eF j hj]
    unfold tkK
    simp [hj, ej]
    omega
theorem tkK_s {v : Nat → Nat} {o : Nat} {g : Nat → Nat} {wy : Nat} (oR : Ord (kL v o g wy) (v (o + 2))) {E : Nat → Bool} {k b : Nat} (hb : b < v (o + 2)) (eb : E b = true) (er : rk (kL v o g wy) (v (o + 2)) E b = k) (i : Nat) : tkK v o g wy E (k + 1) i = if i = b then true else tkK v o g wy E k i := by
  unfold tkK
  by_cases q : i = b
  · subst q
    simp [hb, eb, er]
  · simp only [if_neg q]
    by_cases hi : i < v (o + 2)
    · cases ei : E i with
      | false => simp
      | true =>
        have : rk (kL v o g wy) (v (o + 2)) E i ≠ k := fun z => q (rk_inj oR hi hb ei eb (z.trans er.symm))
        simp only [hi, decide_true, Bool.true_and, decide_eq_decide]
        omega
    · simp [hi]
theorem R_nth {v : Nat → Nat} {i o : Nat} (s : SW v i o) (hc : okI v i) {M : q_M} (h : SH M) (r : RI M v) (ho : 1100 ≤ o ∧ o + 2110 ≤ 60180) (eo : gI M 49 13 = nI o) {g : Nat → Nat} (hh : HI M g) {wy : Nat} (hw : wy < 3) {rd : Nat → Bool} (t2 : TP M (v (o + 3)) rd) {n : Nat} (hn : 1 ≤ n ∧ n ≤ 20) : ∃ d M1, nth v o g wy (fun i => onR v o rd i (v (o + 3))) n d ∧ q_CL 211 [.inr (.inr (some 49)), .inl (nI wy), .inl (nI n), .inl (nI 1)] M = some (some (.inr (.inl (oL d))), M1) ∧ fr (fun a _ => a = 60) M M1 := by
  have s1 := s.1
  have oR : Ord (kL v o g wy) (v (o + 2)) := kL_o fun p q hp hq => (s.2.2.2.2.2 p q hp hq).1
  rw [C_X12_nth]
  obtain ⟨M0, n1, n2, n3⟩ := R_none h
  simp only [m_sel h, Option.bind_some, n1, z_rV]
  have key : ∀ m k, k + m = n → ∀ M, SH M → RI M v → gI M 49 13 = nI o → HI M g → TP M (v (o + 3)) rd → TI M 60 (tkK v o g wy (fun i => onR v o rd i (v (o + 3))) k) → ∀ b : Option Nat, (k = 0 ∨ ∃ i, b = some i ∧ i < v (o + 2) ∧ onR v o rd i (v (o + 3)) = true ∧ rk (kL v o g wy) (v (o + 2)) (fun i => onR v o rd i (v (o + 3))) i + 1 = k) → ∃ d M1, nth v o g wy (fun i => onR v o rd i (v (o + 3))) n d ∧ q_RL T_X12_nth (10, [some (.inr (.inr (some 49))), some (.inl (nI wy)), some (.inl (nI n)), some (.inl (nI 1)), some (.inl (oI b)), some (.inl (nI k))], [], M) = some (some (.inr (.inl (oL d))), M1) ∧ fr (fun a _ => a = 60) M M1 := by
    intro m
    induction m with
    | zero =>
      intro k hk M h r eo hh t2 t1 b hb
      rcases hb with z | ⟨b, rfl, b1, b2, b3⟩
      · omega
      refine ⟨some (dsP v o g wy b), M, ⟨?_, b, b1, b2, by omega, rfl⟩, ?_, fr.rf _ M⟩
      · have := rk_cnt oR (E := fun i => onR v o rd i (v (o + 3))) b1 b2
        omega
      · rw [E_X12_nth_10, if_pos (nI_le (by omega) (by omega))]
        simp only [m_sel h, Option.bind_some, show oI (some b) = nI b from rfl, R_far h r ho eo hh hw (show b ≤ 300 by omega) (fun a ha => s.pt hc b1 ha), z_rL]
        rfl
    | succ m ih =>
      intro k hk M h r eo hh t2 t1 b _
      obtain ⟨b', f, e⟩ := R_nO s hc h r ho eo hh hw t1 true (Or.inr t2)
      have nx := nx_rk oR (E := fun i => onR v o rd i (v (o + 3))) (k := k) (fun i hi => by unfold eL; simp) f
      rw [E_X12_nth_10, if_neg (nI_ge (by omega) (by omega))]
      simp only [m_sel h, Option.bind_some, show nI 1 = nI (bN true) from rfl, e, z_rI]
      cases b' with
      | none =>
        refine ⟨none, M, ?_, ?_, fr.rf _ M⟩
        · have : cnt (fun i => onR v o rd i (v (o + 3))) (v (o + 2)) ≤ k := nx
          show cnt _ _ < n
          omega
        · rw [if_pos (show oI none = -1 from rfl)]; rfl
      | some b' =>
        obtain ⟨x1, x2, x3⟩ := nx
        have hA : SH (stI M 60 b' (nI (bN true))) := h
        obtain ⟨d, M1, p1, p2, p3⟩ := ih (k + 1) (by omega) (stI M 60 b' (nI (bN true))) h r ((gI_oth (by omega)).trans eo) (fun a ha => ⟨(gI_oth (by omega)).trans (hh a ha).1, (hh a ha).2⟩) (fun a ha => (gI_oth (by omega)).trans (t2 a ha)) (by
          have := TI_st (k := b') (by omega) t1 true
          rw [show (fun i => if i = b' then true else tkK v o g wy (fun i => onR v o rd i (v (o + 3))) k i) = tkK v o g wy (fun i => onR v o rd i (v (o + 3))) (k + 1) from funext fun i => (tkK_s oR x1 x2 x3 i).symm] at this
          exact this) (some b') (Or.inr ⟨b', rfl, x1, x2, by omega⟩)
        refine ⟨d, M1, p1, ?_, ((fr.rf (fun a _ => a = 60) M).st rfl).tr p3⟩
        rw [if_neg (show ¬ oI (some b') = -1 from nI_nm1 (by omega))]
        simp only [show oI (some b') = nI b' from rfl, m_tk h, Option.bind_some, m_b16 h (Or.inl rfl) (show b' < 300 by omega), show nI (bN true) &&& 1 = nI (bN true) by decide +kernel, nI_1]
        exact p2
  obtain ⟨d, M1, p1, p2, p3⟩ := key n 0 (by omega) M0 (n2.sh h) (n2.ri r) ((n2.2.2.2 49 13 (by omega)).trans eo) (HI.fr n2 (fun k => by omega) hh) (fun k hk => (n2.2.2.2 61 k (by omega)).trans (t2 k hk)) (fun i hi => by
    rw [n3 i hi]
    unfold tkK
    simp) none (Or.inl rfl)
  exact ⟨d, M1, p1, p2, n2.tr p3⟩
