/-! ===== THE REFERENCE: few ===== -/
/-- the numbers between two spans -/
def btw (v : Nat → Nat) (t : Nat) : Nat := v (57 + 2 * t + 2) - v (57 + 2 * t + 1)
/-- the first of the closest spans, among the first k gaps -/
def bst (v : Nat → Nat) : Nat → Nat
  | 0 => 0
  | k + 1 => if btw v (bst v k) ≤ btw v k then bst v k else k
theorem bst_lt (v : Nat → Nat) : ∀ k, 0 < k → bst v k < k
  | 0, h => by omega
  | k + 1, _ => by
    show (if btw v (bst v k) ≤ btw v k then bst v k else k) < k + 1
    by_cases e : btw v (bst v k) ≤ btw v k
    · rw [if_pos e]
      rcases Nat.eq_zero_or_pos k with q | q
      · subst q; show 0 < 1; omega
      · have := bst_lt v k q; omega
    · rw [if_neg e]; omega
/-- the spans are in order -/
def SO (v : Nat → Nat) : Prop := v 55 ≤ 200 ∧ ∀ x, x + 1 < 2 * v 55 → v (57 + x) ≤ v (57 + x + 1)
/-- two spans melt; y is how far -/
def mgy (v : Nat → Nat) (b y x : Nat) : Nat := if 57 + 2 * b < x ∧ x < 57 + y then v (x + 2) else v x
def mg (v : Nat → Nat) (b : Nat) : Nat → Nat := va_up (mgy v b (2 * v 55 - 2)) 55 (v 55 - 1)
def fewV (n : Nat) : Nat → (Nat → Nat) → Nat → Nat
  | 0, v => v
  | k + 1, v => if v 55 ≤ n then v else fewV n k (mg v (bst v (v 55 - 1)))
theorem SO_mg {v : Nat → Nat} (h : SO v) {b : Nat} (hb : b + 1 < v 55) : SO (mg v b) := by
  have e : mg v b 55 = v 55 - 1 := va_up_self _ _ _
  refine ⟨by rw [e]; have := h.1; omega, fun x hx => ?_⟩
  rw [e] at hx
  have g : ∀ y, mg v b (57 + y) = mgy v b (2 * v 55 - 2) (57 + y) := fun y => va_up_ne _ _ (by omega)
  rw [g, show 57 + x + 1 = 57 + (x + 1) by omega, g]
  unfold mgy
  have s := h.2
  by_cases c1 : 57 + 2 * b < 57 + x ∧ 57 + x < 57 + (2 * v 55 - 2)
  · rw [if_pos c1, if_pos (by omega)]
    have := s (x + 2) (by omega)
    rw [show 57 + x + 2 = 57 + (x + 2) by omega, show 57 + (x + 1) + 2 = 57 + (x + 2) + 1 by omega]; exact this
  · rw [if_neg c1]
    by_cases c2 : 57 + 2 * b < 57 + (x + 1) ∧ 57 + (x + 1) < 57 + (2 * v 55 - 2)
    · rw [if_pos c2]
      have a1 := s x (by omega)
      have a2 := s (x + 1) (by omega)
      have a3 := s (x + 2) (by omega)
      rw [show 57 + (x + 1) = 57 + x + 1 by omega] at a2
      rw [show 57 + (x + 2) = 57 + x + 1 + 1 by omega] at a3
      rw [show 57 + (x + 1) + 2 = 57 + x + 1 + 1 + 1 by omega]
      omega
    · rw [if_neg c2]
      have := s x (by omega)
      rw [show 57 + (x + 1) = 57 + x + 1 by omega]; exact this
theorem R_btw {v : Nat → Nat} {M : q_M} (h : SH M) (r : RI M v) (so : SO v) {t : Nat} (ht : t + 1 < v 55) : q_CL 172 [.inr (.inr (some 49)), .inl (nI t)] M = some (some (.inr (.inl (lN (btw v t)))), M) := by
  have h5 := so.1
  have := so.2 (2 * t + 1) (by omega)
  rw [C_X12_between]
  simp only [m_s h, Option.bind_some, pk_mul, nI_add, m_aL h (show 57 + 2 * t + 2 < 60190 by omega), m_aL h (show 57 + 2 * t + 1 < 60190 by omega), (r (57 + 2 * t + 2) (by omega) (by omega)).1, (r (57 + 2 * t + 1) (by omega) (by omega)).1]
  rw [lN_sub (show v (57 + 2 * t + 1) ≤ v (57 + 2 * t + 2) from this)]
  rfl
def f50 (a : Nat) : Prop := a = 50
theorem R_few93 {v : Nat → Nat} (so : SO v) {b : Nat} (hb : b + 1 < v 55) {x1 : Int32} {w : Nat → Int32} : ∀ n y, y + n + 2 = 2 * v 55 → 2 * b + 2 ≤ y → ∀ M, SH M → RI M (mgy v b y) → WI M w → ∃ M1 y2, q_RL T_X12_few (93, [some (.inr (.inr (some 49))), some (.inl x1), some (.inl (nI b)), some (.inl (nI y))], [], M) = q_RL T_X12_few (7, [some (.inr (.inr (some 49))), some (.inl x1), some (.inl (nI b)), some (.inl (nI y2))], [], M1) ∧ FL f50 M M1 ∧ RI M1 (mg v b) ∧ WI M1 w := by
  have h5 := so.1
  have e55 : ∀ y, mgy v b y 55 = v 55 := fun y => by unfold mgy; rw [if_neg (by omega)]
  intro n
  induction n with
  | zero =>
    intro y hy hby M h r wi
    have r5 := r 55 (by omega) (by omega)
    rw [e55] at r5
    refine ⟨stL M 50 55 (lN (v 55 - 1)), y, ?_, (FL.rf _ M).st rfl, ?_, WI_up wi (by omega)⟩
    · rw [E_X12_few_93]
      simp only [m_s h, Option.bind_some, m_aL h (show 55 < 60190 by omega), r5.1, lg_cmp_ge, nI_add, nI_l (show y + 2 < 2 ^ 31 by omega), lN_mul, pk_lLE (show 2 * v 55 < 2 ^ 63 by omega) (show y + 2 < 2 ^ 63 by omega)]
      rw [if_pos (by omega), lN_sub (by omega), m_bL h (show 55 < 60190 by omega)]
      rfl
    · have := RI_up (k := 55) r (show v 55 - 1 < 2 ^ 62 by omega)
      rw [show y = 2 * v 55 - 2 by omega] at this
      exact this
  | succ n ih =>
    intro y hy hby M h r wi
    have r5 := r 55 (by omega) (by omega)
    rw [e55] at r5
    have ry := r (57 + y + 2) (by omega) (by omega)
    have ey : mgy v b y (57 + y + 2) = v (57 + y + 2) := by unfold mgy; rw [if_neg (by omega)]
    rw [ey] at ry
    have en : mgy v b (y + 1) = va_up (mgy v b y) (57 + y) (v (57 + y + 2)) := by
      funext x
      by_cases ex : x = 57 + y
      · rw [ex, va_up_self]; unfold mgy; rw [if_pos (by omega)]
      · rw [va_up_ne _ _ ex]
        unfold mgy
        by_cases c : 57 + 2 * b < x ∧ x < 57 + y
        · rw [if_pos c, if_pos (by omega)]
        · rw [if_neg c, if_neg (by omega)]
    obtain ⟨M1, y2, p1, p2, p3, p4⟩ := ih (y + 1) (by omega) (by omega) (stL M 50 (57 + y) (lN (v (57 + y + 2)))) h (by rw [en]; exact RI_up r ry.2) (WI_up wi (by omega))
    refine ⟨M1, y2, ?_, ((FL.rf f50 M).st (show f50 50 from rfl)).tr p2, p3, p4⟩
    rw [← p1, E_X12_few_93]
    simp only [m_s h, Option.bind_some, m_aL h (show 55 < 60190 by omega), r5.1, lg_cmp_ge, nI_add, nI_l (show y + 2 < 2 ^ 31 by omega), lN_mul, pk_lLE (show 2 * v 55 < 2 ^ 63 by omega) (show y + 2 < 2 ^ 63 by omega)]
    rw [if_neg (by omega)]
    simp only [m_aL h (show 57 + y + 2 < 60190 by omega), Option.bind_some, ry.1, m_bL h (show 57 + y < 60190 by omega), nI_1]
theorem R_few24 {v : Nat → Nat} (so : SO v) {x1 : Int32} {w : Nat → Int32} {M : q_M} (h : SH M) (r : RI M v) (wi : WI M w) : ∀ n i, i + n + 1 = v 55 → 1 ≤ i → ∃ M1 b y2, q_RL T_X12_few (24, [some (.inr (.inr (some 49))), some (.inl x1), some (.inl (nI (bst v i))), some (.inl (nI i))], [], M) = q_RL T_X12_few (7, [some (.inr (.inr (some 49))), some (.inl x1), some (.inl (nI b)), some (.inl (nI y2))], [], M1) ∧ FL f50 M M1 ∧ RI M1 (mg v (bst v (v 55 - 1))) ∧ WI M1 w := by
  have h5 := so.1
  have r5 := r 55 (by omega) (by omega)
  intro n
  induction n with
  | zero =>
    intro i hi h1
    have bl := bst_lt v i (by omega)
    generalize hb : bst v i = b at *
    have r3 := r (57 + 2 * b + 3) (by omega) (by omega)
    have en : mgy v b (2 * b + 2) = va_up v (57 + 2 * b + 1) (v (57 + 2 * b + 3)) := by
      funext x
      by_cases ex : x = 57 + 2 * b + 1
      · rw [ex, va_up_self]; unfold mgy; rw [if_pos (by omega)]
      · rw [va_up_ne _ _ ex]; unfold mgy; rw [if_neg (by omega)]
    have hA : SH (stL M 50 (57 + 2 * b + 1) (lN (v (57 + 2 * b + 3)))) := h
    obtain ⟨M1, y2, p1, p2, p3, p4⟩ := R_few93 so (b := b) (by omega) (x1 := x1) (w := w) (2 * v 55 - 2 - (2 * b + 2)) (2 * b + 2) (by omega) (by omega) (stL M 50 (57 + 2 * b + 1) (lN (v (57 + 2 * b + 3)))) hA (by rw [en]; exact RI_up r r3.2) (WI_up wi (by omega))
    refine ⟨M1, b, y2, ?_, ((FL.rf f50 M).st (show f50 50 from rfl)).tr p2, by rw [← show i = v 55 - 1 by omega, hb]; exact p3, p4⟩
    rw [← p1, E_X12_few_24]
    simp only [m_s h, Option.bind_some, m_aL h (show 55 < 60190 by omega), r5.1, lg_cmp_ge, nI_add, nI_l (show i + 1 < 2 ^ 31 by omega), pk_lLE (show v 55 < 2 ^ 63 by omega) (show i + 1 < 2 ^ 63 by omega)]
    rw [if_pos (by omega)]
    simp only [pk_mul, nI_add, m_aL h (show 57 + 2 * b + 3 < 60190 by omega), Option.bind_some, r3.1, m_bL h (show 57 + 2 * b + 1 < 60190 by omega)]
  | succ n ih =>
    intro i hi h1
    have bl := bst_lt v i (by omega)
    obtain ⟨M1, b, y2, p1, p2, p3, p4⟩ := ih (i + 1) (by omega) (by omega)
    refine ⟨M1, b, y2, ?_, p2, p3, p4⟩
    have b1 := (r (57 + 2 * i + 2) (by omega) (by omega)).2
    have b2 := (r (57 + 2 * bst v i + 2) (by omega) (by omega)).2
    rw [← p1, E_X12_few_24]
    simp only [m_s h, Option.bind_some, m_aL h (show 55 < 60190 by omega), r5.1, lg_cmp_ge, nI_add, nI_1, nI_l (show i + 1 < 2 ^ 31 by omega), pk_lLE (show v 55 < 2 ^ 63 by omega) (show i + 1 < 2 ^ 63 by omega)]
    rw [if_neg (by omega)]
    simp only [m_sel h, Option.bind_some, R_btw h r so (show i + 1 < v 55 by omega), R_btw h r so (show bst v i + 1 < v 55 by omega), z_rL, pk_lLE (show btw v (bst v i) < 2 ^ 63 by unfold btw; omega) (show btw v i < 2 ^ 63 by unfold btw; omega)]
    by_cases e : btw v (bst v i) ≤ btw v i
    · rw [if_pos e, show bst v (i + 1) = bst v i from if_pos e]
    · rw [if_neg e, show bst v (i + 1) = i from if_neg e]
theorem R_few7 {n : Nat} (hn : 1 ≤ n ∧ n < 2 ^ 31) {w : Nat → Int32} : ∀ k v, v 55 ≤ n + k → SO v → ∀ M d2 d3, SH M → RI M v → WI M w → ∃ M1, q_RL T_X12_few (7, [some (.inr (.inr (some 49))), some (.inl (nI n)), d2, d3], [], M) = some (some (.inl (nI (fewV n k v 55))), M1) ∧ FL f50 M M1 ∧ RI M1 (fewV n k v) ∧ SO (fewV n k v) ∧ WI M1 w := by
  intro k
  induction k with
  | zero =>
    intro v hv so M d2 d3 h r wi
    have r5 := r 55 (by omega) (by omega)
    have h5 := so.1
    refine ⟨M, ?_, FL.rf _ M, r, so, wi⟩
    rw [E_X12_few_7]
    simp only [m_s h, Option.bind_some, m_aL h (show 55 < 60190 by omega), r5.1, lg_cmp_le, nI_l hn.2, pk_lLE (show v 55 < 2 ^ 63 by omega) (show n < 2 ^ 63 by omega), lN_i]
    rw [if_pos (by omega)]; rfl
  | succ k ih =>
    intro v hv so M d2 d3 h r wi
    have r5 := r 55 (by omega) (by omega)
    have h5 := so.1
    rw [E_X12_few_7]
    simp only [m_s h, Option.bind_some, m_aL h (show 55 < 60190 by omega), r5.1, lg_cmp_le, nI_l hn.2, pk_lLE (show v 55 < 2 ^ 63 by omega) (show n < 2 ^ 63 by omega), lN_i]
    by_cases e : v 55 ≤ n
    · refine ⟨M, ?_, FL.rf _ M, ?_⟩
      · rw [if_pos e, show fewV n (k + 1) v = v from if_pos e]
      · rw [show fewV n (k + 1) v = v from if_pos e]; exact ⟨r, so, wi⟩
    · rw [if_neg e]
      obtain ⟨M1, b, y2, p1, p2, p3, p4⟩ := R_few24 so (x1 := nI n) h r wi (v 55 - 2) 1 (by omega) (by omega)
      have eb : bst v 1 = 0 := by
        show (if btw v (bst v 0) ≤ btw v 0 then bst v 0 else 0) = 0
        by_cases q : btw v (bst v 0) ≤ btw v 0
        · rw [if_pos q]; rfl
        · rw [if_neg q]
      rw [eb] at p1
      rw [p1]
      have bl := bst_lt v (v 55 - 1) (by omega)
      have so2 := SO_mg so (b := bst v (v 55 - 1)) (by omega)
      obtain ⟨M2, u1, u2, u3, u4, u5⟩ := ih (mg v (bst v (v 55 - 1))) (by rw [show mg v (bst v (v 55 - 1)) 55 = v 55 - 1 from va_up_self _ _ _]; omega) so2 M1 (some (.inl (nI b))) (some (.inl (nI y2))) (p2.sh h) p3 p4
      rw [show fewV n (k + 1) v = fewV n k (mg v (bst v (v 55 - 1))) from if_neg e]
      exact ⟨M2, u1, p2.tr u2, u3, u4, u5⟩
theorem R_few {v : Nat → Nat} (so : SO v) {w : Nat → Int32} {M : q_M} (h : SH M) (r : RI M v) (wi : WI M w) (x : Int32) : (¬ (∃ n, 1 ≤ n ∧ n < 2 ^ 31 ∧ x = nI n) ∧ q_CL 171 [.inr (.inr (some 49)), .inl x] M = some (some (.inl (-1)), M)) ∨ ∃ n M1, 1 ≤ n ∧ n < 2 ^ 31 ∧ x = nI n ∧ q_CL 171 [.inr (.inr (some 49)), .inl x] M = some (some (.inl (nI (fewV n 200 v 55))), M1) ∧ FL f50 M M1 ∧ RI M1 (fewV n 200 v) ∧ SO (fewV n 200 v) ∧ WI M1 w := by
  rw [C_X12_few]
  by_cases hx : nI 1 ≤ x
  · right
    rw [if_pos hx]
    have h0 : ¬ x < 0 := fun q => by
      have a1 := Int32.le_iff_toInt_le.mp hx
      have a2 := Int32.lt_iff_toInt_lt.mp q
      have e0 : (0 : Int32).toInt = 0 := rfl
      rw [nI_toInt (by omega)] at a1
      omega
    obtain ⟨n, hn, rfl⟩ := nI_of h0
    have h1 : 1 ≤ n := (nI_leI (by omega) hn).mp hx
    obtain ⟨M1, p⟩ := R_few7 ⟨h1, hn⟩ 200 v (by have := so.1; omega) so M none none h r wi
    exact ⟨n, M1, h1, hn, rfl, p⟩
  · left
    rw [if_neg hx]
    refine ⟨?_, rfl⟩
    rintro ⟨n, h1, h2, rfl⟩
    exact hx (nI_le h1 h2)
