/-! ===== THE REFERENCE: page ===== -/
def pgW (v : Nat → Nat) (o k t : Nat) : Nat := if t = 0 then v (o + 1804 + k) else if t = 1 then wsm v o (psm v o k) (v (o + 1804 + k)) else if t = 8 then psm v o k else if t < 5 then lwP v o (psm v o k) (t - 2) (v (o + 1804 + k)) else hwP v o (psm v o k) (t - 5) (v (o + 1804 + k))
theorem FO.fr {A : Nat → Prop} {M M1 M2 : q_M} (a : FO A M M1) {P : Nat → Nat → Prop} (b : fr P M1 M2) (h : ∀ a k, P a k → scr a k ∨ (a = 49 ∧ k = 13)) : FO A M M2 := ⟨b.1.trans a.1, b.2.1.trans a.2.1, by rw [b.2.2.1]; exact a.2.2.1, fun x k q g => (b.2.2.2 x k fun z => (h x k z).elim q g).trans (a.2.2.2.1 x k q g), fun x k q => (b.gl x k).trans (a.2.2.2.2 x k q)⟩
/-- what a slice's points and pages have -/
theorem SW.pg {v : Nat → Nat} {i o : Nat} (s : SW v i o) {k : Nat} (hk : k < v (o + 3)) : psm v o k + v (o + 1804 + k) ≤ v (o + 2) := by
  have := psm_in (v := v) (o := o) (v (o + 3)) hk
  have := s.2.2.1
  omega
theorem SW.pt {v : Nat → Nat} {i o : Nat} (s : SW v i o) (hc : okI v i) {p a : Nat} (hp : p < v (o + 2)) (ha : a < 3) : v (o + 4 + 6 * p + (1 + a)) < 2 ^ 20 := by
  have := (s.2.2.2.2.1 p hp).2.2.1 a ha
  have := room_le hc ha
  omega
theorem R_page {v : Nat → Nat} (s : SV v) {M : q_M} (h : SH M) (r : RI M v) (x1 x2 x3 : Int32) : ∃ M1, FO (fun _ => False) M M1 ∧ ((¬ (∃ j k t, j < 4 ∧ x1 = nI j ∧ v (oS j) = 1 ∧ x2 = nI k ∧ k < v (oS j + 3) ∧ x3 = nI t ∧ t < 9) ∧ q_CL 200 [.inr (.inr (some 49)), .inl x1, .inl x2, .inl x3] M = some (some (.inl (-1)), M1)) ∨ ∃ j k t, j < 4 ∧ x1 = nI j ∧ v (oS j) = 1 ∧ x2 = nI k ∧ k < v (oS j + 3) ∧ x3 = nI t ∧ t < 9 ∧ q_CL 200 [.inr (.inr (some 49)), .inl x1, .inl x2, .inl x3] M = some (some (.inl (nI (pgW v (oS j) k t))), M1)) := by
  rw [C_X12_page]
  simp only [m_sel h, Option.bind_some]
  rcases R_opens h r x1 with ⟨hx, M1, e, f⟩ | ⟨j, hj, rfl, eo, e⟩
  · refine ⟨M1, f, Or.inl ⟨fun ⟨j, p, t, a, b, c, _⟩ => hx ⟨j, a, b, c⟩, ?_⟩⟩
    rw [e]; rfl
  have ob := oS_b hj
  rw [e]
  simp only [z_rI, Option.bind_some]
  rw [if_neg (show ¬ nI 1 = 0 by decide +kernel)]
  have hA : SH (stI M 49 13 (nI (oS j))) := h
  have rA : RI (stI M 49 13 (nI (oS j))) v := r
  have fA : FO (fun _ => False) M (stI M 49 13 (nI (oS j))) := (FO.rf _ M).sO
  have eA : gI (stI M 49 13 (nI (oS j))) 49 13 = nI (oS j) := gI_self
  generalize stI M 49 13 (nI (oS j)) = A at *
  have sw := s.sw hj eo
  obtain ⟨s1, s2, s3, s4, s5, s6⟩ := s.sw hj eo
  obtain ⟨i8, hc⟩ := s.i8 hj eo
  have ho : 1100 ≤ oS j ∧ oS j + 2110 ≤ 60180 := by omega
  simp only [m_sel hA, Option.bind_some, (R_fld hA rA ho eA).2.1, z_rI]
  have bad : (∀ p t, x2 = nI p → p < v (oS j + 3) → x3 = nI t → t < 9 → False) → ¬ (∃ j' p t, j' < 4 ∧ nI j = nI j' ∧ v (oS j') = 1 ∧ x2 = nI p ∧ p < v (oS j' + 3) ∧ x3 = nI t ∧ t < 9) := fun g => by
    rintro ⟨j', p, t, a1, a2, a3, a4, a5, a6, a7⟩
    have : j = j' := (nI_eq (by omega) (by omega)).mp a2
    subst this
    exact g p t a4 a5 a6 a7
  rcases pk_ix x2 (show v (oS j + 3) < 2 ^ 31 by omega) with q | q | ⟨p, hp, rfl⟩
  · refine ⟨A, fA, Or.inl ⟨bad fun p t a b _ _ => ?_, if_pos q⟩⟩
    subst a
    exact nI_pos (by omega) q
  · refine ⟨A, fA, Or.inl ⟨bad fun p t a b _ _ => ?_, ?_⟩⟩
    · subst a
      exact nI_ge b (by omega) q
    · by_cases q0 : x2 < 0
      · rw [if_pos q0]
      · rw [if_neg q0, if_pos q]
  rw [if_neg (nI_pos (by omega)), if_neg (nI_ge hp (by omega))]
  rcases pk_ix x3 (show 9 < 2 ^ 31 by omega) with q | q | ⟨t, ht, rfl⟩
  · refine ⟨A, fA, Or.inl ⟨bad fun p t _ _ a b => ?_, if_pos q⟩⟩
    subst a
    exact nI_pos (by omega) q
  · refine ⟨A, fA, Or.inl ⟨bad fun p t _ _ a b => ?_, ?_⟩⟩
    · subst a
      exact nI_ge b (by omega) q
    · by_cases q0 : x3 < 0
      · rw [if_pos q0]
      · rw [if_neg q0, if_neg]
        intro z
        have a1 : (nI 9).toInt ≤ x3.toInt := Int32.le_iff_toInt_le.mp q
        have a2 : x3.toInt ≤ (nI 8).toInt := Int32.le_iff_toInt_le.mp z
        rw [nI_toInt (by omega)] at a1 a2
        omega
  rw [if_neg (nI_pos (by omega)), if_pos (nI_le (by omega) (by omega))]
  have hpg := sw.pg hp
  have s4p := s4 p hp
  obtain ⟨M2, b1, b2, b3⟩ := R_bnd hA rA ho eA (k := p) (f := psm v (oS j) p) (n := v (oS j + 1804 + p)) (by omega) rfl rfl s4p.1 (by omega) (fun y a hy ha => by have := sw.pt hc (show y < v (oS j + 2) by omega) ha; omega)
  have h2 := b2.sh hA
  rw [show (0 : Int32) = nI 0 from nI_0.symm]
  simp only [nI_eq (show t < 2 ^ 31 by omega) (show 0 < 2 ^ 31 by omega), nI_eq (show t < 2 ^ 31 by omega) (show 1 < 2 ^ 31 by omega), nI_eq (show t < 2 ^ 31 by omega) (show 8 < 2 ^ 31 by omega), m_sel hA, R_onP hA rA ho eA (show p ≤ 305 by omega), R_beg hA rA ho eA (show p ≤ 300 by omega), R_wt hA rA ho eA (show psm v (oS j) p + v (oS j + 1804 + p) ≤ 300 by omega), z_rI, Option.bind_some, b1, z_rV, m_lo h2, m_hi h2]
  by_cases c0 : t = 0
  · refine ⟨A, fA, Or.inr ⟨j, p, t, hj, rfl, eo, rfl, hp, rfl, ht, ?_⟩⟩
    unfold pgW
    rw [if_pos c0, if_pos c0]
  by_cases c1 : t = 1
  · refine ⟨A, fA, Or.inr ⟨j, p, t, hj, rfl, eo, rfl, hp, rfl, ht, ?_⟩⟩
    unfold pgW
    rw [if_neg c0, if_neg c0, if_pos c1, if_pos c1]
  by_cases c8 : t = 8
  · refine ⟨A, fA, Or.inr ⟨j, p, t, hj, rfl, eo, rfl, hp, rfl, ht, ?_⟩⟩
    unfold pgW
    rw [if_neg c0, if_neg c0, if_neg c1, if_neg c1, if_pos c8, if_pos c8]
  refine ⟨M2, fA.fr b2 (fun a k z => Or.inl (by unfold b56 at z; unfold scr; omega)), Or.inr ⟨j, p, t, hj, rfl, eo, rfl, hp, rfl, ht, ?_⟩⟩
  unfold pgW
  rw [if_neg c0, if_neg c0, if_neg c1, if_neg c1, if_neg c8, if_neg c8]
  by_cases c5 : t < 5
  · rw [if_neg (nI_ge c5 (by omega)), if_pos c5, pk_sub (by omega), m_a3 h2 (Or.inl rfl) (by omega), (b3 (t - 2) (by omega)).1]
    rfl
  · rw [if_pos (nI_le (by omega) (by omega)), if_neg c5, pk_sub (by omega), m_a3 h2 (Or.inr (Or.inl rfl)) (by omega), (b3 (t - 5) (by omega)).2]
    rfl
/-! ===== ORDER: ranks ===== -/
/-- how many below m are in E -/
def cnt (E : Nat → Bool) : Nat → Nat
  | 0 => 0
  | m + 1 => cnt E m + if E m = true then 1 else 0
theorem cnt_cg {E F : Nat → Bool} : ∀ m, (∀ i, i < m → E i = F i) → cnt E m = cnt F m
  | 0, _ => rfl
  | m + 1, h => by
    unfold cnt
    rw [cnt_cg m fun i hi => h i (by omega), h m (by omega)]
theorem cnt_le {E F : Nat → Bool} : ∀ m, (∀ i, i < m → E i = true → F i = true) → cnt E m ≤ cnt F m
  | 0, _ => Nat.le_refl _
  | m + 1, h => by
    have ih := cnt_le m fun i hi => h i (by omega)
    have hm := h m (by omega)
    unfold cnt
    by_cases e : E m = true
    · rw [if_pos e, if_pos (hm e)]; omega
    · rw [if_neg e]; omega
theorem cnt_lt {E F : Nat → Bool} {j : Nat} : ∀ m, (∀ i, i < m → E i = true → F i = true) → j < m → F j = true → E j = false → cnt E m < cnt F m
  | 0, _, hj, _, _ => by omega
  | m + 1, h, hj, fj, ej => by
    have hm := h m (by omega)
    unfold cnt
    by_cases q : j = m
    · subst q
      have ih := cnt_le j fun i hi => h i (by omega)
      rw [if_pos fj, if_neg (by rw [ej]; simp)]
      omega
    · have ih := cnt_lt m (fun i hi => h i (by omega)) (by omega) fj ej
      by_cases e : E m = true
      · rw [if_pos e, if_pos (hm e)]; omega
      · rw [if_neg e]; omega
theorem cnt_m (E : Nat → Bool) : ∀ m, cnt E m ≤ m
  | 0 => Nat.le_refl _
  | m + 1 => by
    have := cnt_m E m
    unfold cnt
    split <;> omega
/-- at most one more -/
theorem cnt_1 {E F : Nat → Bool} {j : Nat} : ∀ m, (∀ i, i < m → E i = true → F i = true ∨ i = j) → cnt E m ≤ cnt F m + 1 ∧ (m ≤ j → cnt E m ≤ cnt F m)
  | 0, _ => ⟨Nat.zero_le _, fun _ => Nat.le_refl _⟩
  | m + 1, h => by
    obtain ⟨i1, i2⟩ := cnt_1 m fun i hi => h i (by omega)
    have hm := h m (by omega)
    unfold cnt
    by_cases e : E m = true
    · rw [if_pos e]
      rcases hm e with q | q
      · rw [if_pos q]
        exact ⟨by omega, fun z => by have := i2 (by omega); omega⟩
      · have := i2 (by omega)
        exact ⟨by split <;> omega, fun z => by omega⟩
    · rw [if_neg e]
      exact ⟨by split <;> omega, fun z => by have := i2 (by omega); split <;> omega⟩
/-- a strict order of the numbers below m -/
def Ord (K : Nat → Nat → Bool) (m : Nat) : Prop := (∀ i, i < m → K i i = false) ∧ (∀ i j, i < m → j < m → i ≠ j → K i j = true ∨ K j i = true) ∧ ∀ i j k, i < m → j < m → k < m → K i j = true → K j k = true → K i k = true
def rk (K : Nat → Nat → Bool) (m : Nat) (E : Nat → Bool) (i : Nat) : Nat := cnt (fun j => E j && K j i) m
theorem rk_lt {K : Nat → Nat → Bool} {m : Nat} (o : Ord K m) {E : Nat → Bool} {i j : Nat} (hi : i < m) (hj : j < m) (ei : E i = true) (k : K i j = true) : rk K m E i < rk K m E j := by
  refine cnt_lt (j := i) m (fun x hx hE => ?_) hi (by rw [ei, k]; rfl) (by rw [o.1 i hi, ei]; rfl)
  rw [Bool.and_eq_true] at hE ⊢
  exact ⟨hE.1, o.2.2 x i j hx hi hj hE.2 k⟩
theorem rk_inj {K : Nat → Nat → Bool} {m : Nat} (o : Ord K m) {E : Nat → Bool} {i j : Nat} (hi : i < m) (hj : j < m) (ei : E i = true) (ej : E j = true) (h : rk K m E i = rk K m E j) : i = j := by
  by_cases q : i = j
  · exact q
  · exfalso
    rcases o.2.1 i j hi hj q with k | k
    · have := rk_lt o hi hj ei k; omega
    · have := rk_lt o hj hi ej k; omega
theorem rk_cnt {K : Nat → Nat → Bool} {m : Nat} (o : Ord K m) {E : Nat → Bool} {i : Nat} (hi : i < m) (ei : E i = true) : rk K m E i < cnt E m :=
  cnt_lt (j := i) m (fun x hx hE => by rw [Bool.and_eq_true] at hE; exact hE.1) hi ei (by rw [o.1 i hi, ei]; rfl)
theorem rk_few {K : Nat → Nat → Bool} {m : Nat} (o : Ord K m) {E : Nat → Bool} : ∀ k, cnt (fun i => E i && decide (rk K m E i < k)) m ≤ k
  | 0 => by
    have : cnt (fun i => E i && decide (rk K m E i < 0)) m = cnt (fun _ => false) m := cnt_cg m fun i _ => by simp
    rw [this]
    have : ∀ n, cnt (fun _ => false) n = 0 := fun n => by
      induction n with
      | zero => rfl
      | succ n ih => unfold cnt; rw [ih]; rfl
    rw [this]; omega
  | k + 1 => by
    have ih := rk_few o (E := E) k
    by_cases q : ∃ j, j < m ∧ E j = true ∧ rk K m E j = k
    · obtain ⟨j, hj, ej, rj⟩ := q
      have := (cnt_1 (E := fun i => E i && decide (rk K m E i < k + 1)) (F := fun i => E i && decide (rk K m E i < k)) (j := j) m fun i hi e => by
        simp only [Bool.and_eq_true, decide_eq_true_eq] at e ⊢
        by_cases z : rk K m E i = k
        · right
          exact rk_inj o hi hj e.1 ej (by omega)
        · left
          exact ⟨e.1, by omega⟩).1
      omega
    · have : cnt (fun i => E i && decide (rk K m E i < k + 1)) m ≤ cnt (fun i => E i && decide (rk K m E i < k)) m := cnt_le m fun i hi e => by
        simp only [Bool.and_eq_true, decide_eq_true_eq] at e ⊢
        refine ⟨e.1, ?_⟩
        have : rk K m E i ≠ k := fun z => q ⟨i, hi, e.1, z⟩
        omega
      omega
/-- the least of those from rank k on has rank k -/
theorem rk_nx {K : Nat → Nat → Bool} {m : Nat} (o : Ord K m) {E : Nat → Bool} {i k : Nat} (hi : i < m) (ei : E i = true) (hk : k ≤ rk K m E i) (hl : ∀ j, j < m → E j = true → k ≤ rk K m E j → j ≠ i → K i j = true) : rk K m E i = k := by
  have h1 := rk_few o (E := E) k
  have h2 : rk K m E i ≤ cnt (fun i => E i && decide (rk K m E i < k)) m := cnt_le m fun j hj e => by
    simp only [Bool.and_eq_true, decide_eq_true_eq] at e ⊢
    refine ⟨e.1, ?_⟩
    rcases Nat.lt_or_ge (rk K m E j) k with q | q
    · exact q
    · exfalso
      have ne : j ≠ i := fun z => by rw [z, o.1 i hi] at e; exact absurd e.2 (by simp)
      have := rk_lt o hi hj ei (hl j hj e.1 q ne)
      have := rk_lt o hj hi e.1 e.2
      omega
  omega
/-- the first of a set, or none -/
def Fst (K : Nat → Nat → Bool) (E : Nat → Bool) (n : Nat) (r : Option Nat) : Prop := match r with
  | none => ∀ i, i < n → E i = false
  | some b => b < n ∧ E b = true ∧ ∀ i, i < n → E i = true → i ≠ b → K b i = true
theorem Fst_0 (K : Nat → Nat → Bool) (E : Nat → Bool) : Fst K E 0 none := fun i hi => absurd hi (Nat.not_lt_zero i)
theorem Fst_no {K : Nat → Nat → Bool} {E : Nat → Bool} {n : Nat} {r : Option Nat} (f : Fst K E n r) (e : E n = false) : Fst K E (n + 1) r := by
  cases r with
  | none =>
    intro i hi
    by_cases q : i = n
    · rw [q]; exact e
    · exact f i (by omega)
  | some b =>
    refine ⟨by have := f.1; omega, f.2.1, fun i hi ei ne => ?_⟩
    by_cases q : i = n
    · rw [q, e] at ei; exact absurd ei (by simp)
    · exact f.2.2 i (by omega) ei ne
theorem Fst_n0 {K : Nat → Nat → Bool} {E : Nat → Bool} {n : Nat} (f : Fst K E n none) (e : E n = true) : Fst K E (n + 1) (some n) := by
  refine ⟨by omega, e, fun i hi ei ne => ?_⟩
  have := f i (by omega)
  rw [this] at ei
  exact absurd ei (by simp)
theorem Fst_ge {K : Nat → Nat → Bool} {E : Nat → Bool} {n b : Nat} (f : Fst K E n (some b)) (k : K b n = true) : Fst K E (n + 1) (some b) := by
  refine ⟨by have := f.1; omega, f.2.1, fun i hi ei ne => ?_⟩
  by_cases q : i = n
  · rw [q]; exact k
  · exact f.2.2 i (by omega) ei ne
theorem Fst_lt {K : Nat → Nat → Bool} {m : Nat} (o : Ord K m) {E : Nat → Bool} {n b : Nat} (hn : n < m) (f : Fst K E n (some b)) (e : E n = true) (k : K n b = true) : Fst K E (n + 1) (some n) := by
  refine ⟨by omega, e, fun i hi ei ne => ?_⟩
  by_cases q : i = b
  · rw [q]; exact k
  · have := f.1
    exact o.2.2 n b i hn (by omega) (by omega) k (f.2.2 i (by omega) ei q)
theorem Fst_ex {K : Nat → Nat → Bool} {m : Nat} (o : Ord K m) (E : Nat → Bool) : ∀ n, n ≤ m → ∃ r, Fst K E n r
  | 0, _ => ⟨none, Fst_0 K E⟩
  | n + 1, h => by
    obtain ⟨r, f⟩ := Fst_ex o E n (by omega)
    cases e : E n with
    | false => exact ⟨r, Fst_no f e⟩
    | true =>
      cases r with
      | none => exact ⟨_, Fst_n0 f e⟩
      | some b =>
        have := f.1
        rcases o.2.1 n b (by omega) (by omega) (by omega) with k | k
        · exact ⟨_, Fst_lt o (by omega) f e k⟩
        · exact ⟨_, Fst_ge f k⟩
/-- for each rank there is one -/
theorem rk_ex {K : Nat → Nat → Bool} {m : Nat} (o : Ord K m) {E : Nat → Bool} {k : Nat} (hk : k < cnt E m) : ∃ i, i < m ∧ E i = true ∧ rk K m E i = k := by
  obtain ⟨r, f⟩ := Fst_ex o (fun i => E i && decide (k ≤ rk K m E i)) m (Nat.le_refl m)
  cases r with
  | none =>
    exfalso
    have h1 := rk_few o (E := E) k
    have h2 : cnt E m ≤ cnt (fun i => E i && decide (rk K m E i < k)) m := cnt_le m fun i hi e => by
      have := f i hi
      simp only [Bool.and_eq_true, decide_eq_true_eq] at this ⊢
      refine ⟨e, ?_⟩
      rw [e] at this
      simp at this
      exact this
    omega
  | some b =>
    obtain ⟨f1, f2, f3⟩ := f
    simp only [Bool.and_eq_true, decide_eq_true_eq] at f2 f3
    exact ⟨b, f1, f2.1, rk_nx o f1 f2.1 f2.2 fun j hj ej hk ne => f3 j hj ⟨ej, hk⟩ ne⟩
