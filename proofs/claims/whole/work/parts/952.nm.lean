/-! ===== THE REFERENCE: means ===== -/
/-- how many of the windows of width w hold both f and t, f ≤ t -/
def am (f t s w : Nat) : Nat := (if f ≤ s - w then f else s - w) + 1 - (t + 1 - w)
theorem am_neg : ∀ t, t < 64 → ∀ w, w < 65 → t + 1 ≤ w → nI t - nI w + nI 1 ≤ 0 := by decide +kernel
theorem R_am {M : q_M} {f t s w : Nat} (ht : t < 64) (hf : f < 64) (hs : s ≤ 64) (hw : w ≤ s) : q_CL 219 [.inl (nI f), .inl (nI t), .inl (nI s), .inl (nI w)] M = some (some (.inr (.inl (lN (am f t s w)))), M) := by
  rw [C_X12_among]
  unfold am
  simp only [pk_sub hw, nI_leI (show s - w < 2 ^ 31 by omega) (show f < 2 ^ 31 by omega)]
  by_cases c : t + 1 ≤ w
  · rw [if_pos (am_neg t ht w (by omega) c)]
    by_cases c2 : s - w ≤ f
    · rw [if_pos c2, if_neg (nI_nlt (by omega) (by omega)), pk_sub (by omega), nI_l (by omega), lN_add]
      by_cases c3 : f ≤ s - w
      · rw [if_pos c3, show f = s - w by omega, show s - w + 1 - (t + 1 - w) = s - w - 0 + 1 by omega]
      · rw [if_neg c3, show s - w + 1 - (t + 1 - w) = s - w - 0 + 1 by omega]
    · rw [if_neg c2, if_neg (nI_nlt (by omega) (by omega)), pk_sub (by omega), nI_l (by omega), lN_add, if_pos (by omega), show f + 1 - (t + 1 - w) = f - 0 + 1 by omega]
  · simp only [pk_sub (show w ≤ t by omega), nI_add]
    rw [if_neg (nI_nle (by omega) (by omega))]
    by_cases c2 : s - w ≤ f
    · rw [if_pos c2]
      have e : (if f ≤ s - w then f else s - w) = s - w := by split <;> omega
      rw [e]
      by_cases c3 : s - w < t - w + 1
      · rw [if_pos (nI_lt c3 (by omega)), show s - w + 1 - (t + 1 - w) = 0 by omega]
      · rw [if_neg (nI_nlt (by omega) (by omega)), pk_sub (by omega), nI_l (by omega), lN_add, show s - w - (t - w + 1) + 1 = s - w + 1 - (t + 1 - w) by omega]
    · rw [if_neg c2, if_pos (show f ≤ s - w by omega)]
      by_cases c3 : f < t - w + 1
      · rw [if_pos (nI_lt c3 (by omega)), show f + 1 - (t + 1 - w) = 0 by omega]
      · rw [if_neg (nI_nlt (by omega) (by omega)), pk_sub (by omega), nI_l (by omega), lN_add, show f - (t - w + 1) + 1 = f + 1 - (t + 1 - w) by omega]
theorem am_le (f t s w : Nat) : am f t s w ≤ f + 1 := by unfold am; split <;> omega
/-- both at once, whatever their order -/
def am2 (x a s w : Nat) : Nat := if x ≤ a then am x a s w else am a x s w
theorem am2_le (x a s w : Nat) : am2 x a s w ≤ am x x s w := by
  unfold am2 am
  split
  · omega
  · split <;> split <;> omega
def pl2 (x y : Nat) (a : Nat) : Nat := if a = 0 then x else if a = 1 then y else 0
/-- what the place x, y takes off -/
def tmS (v : Nat → Nat) (i s w h x y : Nat) : Nat := if npI v i (pl2 x y) = 0 then 0 else if plI v i (npI v i (pl2 x y) - 1) 0 < s ∧ plI v i (npI v i (pl2 x y) - 1) 1 < s then am2 x (plI v i (npI v i (pl2 x y) - 1) 0) s w * am2 y (plI v i (npI v i (pl2 x y) - 1) 1) s h else 0
theorem tmS_le (v : Nat → Nat) (i s w h x y : Nat) : tmS v i s w h x y ≤ am x x s w * am y y s h := by
  unfold tmS
  split
  · omega
  · split
    · exact Nat.mul_le_mul (am2_le _ _ _ _) (am2_le _ _ _ _)
    · omega
def mI_ (v : Nat → Nat) (i s w h x : Nat) : Nat → Nat
  | 0 => 0
  | y + 1 => mI_ v i s w h x y + (am x x s w * am y y s h - tmS v i s w h x y)
def mO (v : Nat → Nat) (i s w h : Nat) : Nat → Nat
  | 0 => 0
  | x + 1 => mO v i s w h x + mI_ v i s w h x s
theorem mI_b2 (v : Nat → Nat) (i s w h x : Nat) (hx : x < 64) : ∀ y, y ≤ 64 → mI_ v i s w h x y ≤ 4096 * y
  | 0, _ => Nat.le_refl _
  | y + 1, hy => by
    have ih := mI_b2 v i s w h x hx y (by omega)
    have a1 := am_le x x s w
    have a2 := am_le y y s h
    have := Nat.mul_le_mul (show am x x s w ≤ 64 by omega) (show am y y s h ≤ 64 by omega)
    show mI_ v i s w h x y + (am x x s w * am y y s h - tmS v i s w h x y) ≤ _
    omega
theorem mO_b2 (v : Nat → Nat) (i s w h : Nat) (hs : s ≤ 64) : ∀ x, x ≤ 64 → mO v i s w h x ≤ 262144 * x
  | 0, _ => Nat.le_refl _
  | x + 1, hx => by
    have ih := mO_b2 v i s w h hs x (by omega)
    have := mI_b2 v i s w h x (by omega) s hs
    show mO v i s w h x + mI_ v i s w h x s ≤ _
    omega
def f49 (a : Nat) : Prop := a = 49
theorem m_fL {M : q_M} (h : SH M) {k : Nat} : q_fL M 12 49 k = some (gL M 49 k) := y_fL h (by omega) rfl
theorem m_sL {M : q_M} (h : SH M) {k : Nat} {x : Int64} : q_sL M 12 49 k x = some (stL M 49 k x) := y_sL h (by omega) rfl
theorem FL.r49 {M M1 : q_M} (f : FL f49 M M1) {v : Nat → Nat} (r : RI M v) : RI M1 v := f.ri (by unfold f49; omega) r
theorem R_me107 {v : Nat → Nat} {i : Nat} (hi : i < 8) (hc : okI v i) (hd : cD v i = 2) {s w h : Nat} (hs : s ≤ 64) (r0 : s ≤ cB (cK v i) ^ cL v i 0) (r1 : s ≤ cB (cK v i) ^ cL v i 1) (hw : w ≤ s) (hh : h ≤ s) {x : Nat} (hx : x < s) {T W : Nat} (hT : T < 2 ^ 40) : ∀ m y, y + m = s → ∀ {M : q_M}, SH M → RI M v → gL M 49 17 = lN W → gL M 49 18 = lN (T + mI_ v i s w h x y) → ∀ d7 d8 d9 d10, ∃ M1 f7 f8 f9 f10, q_RL T_X12_means (107, [some (.inr (.inr (some 49))), some (.inl (nI i)), some (.inl (nI s)), some (.inl (nI w)), some (.inl (nI h)), some (.inl (nI x)), some (.inl (nI y)), d7, d8, d9, d10], [], M) = q_RL T_X12_means (98, [some (.inr (.inr (some 49))), some (.inl (nI i)), some (.inl (nI s)), some (.inl (nI w)), some (.inl (nI h)), some (.inl (nI (x + 1))), some (.inl (nI s)), f7, f8, f9, f10], [], M1) ∧ FL f49 M M1 ∧ gL M1 49 17 = lN W ∧ gL M1 49 18 = lN (T + mI_ v i s w h x s) := by
  intro m
  induction m with
  | zero =>
    intro y hy M hM r e7 e8 d7 d8 d9 d10
    rw [Nat.add_zero] at hy
    rw [hy] at e8 ⊢
    refine ⟨M, d7, d8, d9, d10, ?_, FL.rf _ M, e7, e8⟩
    rw [E_X12_means_107, if_pos (nI_le (Nat.le_refl _) (by omega)), nI_1]
  | succ m ih =>
    intro y hy M hM r e7 e8 d7 d8 d9 d10
    have hy2 : y < s := by omega
    have f49' : f49 49 := rfl
    have b1 := mI_b2 v i s w h x (by omega) y (by omega)
    have a1 := am_le x x s w
    have a2 := am_le y y s h
    have a12 := Nat.mul_le_mul (show am x x s w ≤ 64 by omega) (show am y y s h ≤ 64 by omega)
    have tl := tmS_le v i s w h x y
    have sz := cS_62 hc
    have hA : SH (stL M 49 18 (lN (T + mI_ v i s w h x y + am x x s w * am y y s h))) := hM
    have rA : RI (stL M 49 18 (lN (T + mI_ v i s w h x y + am x x s w * am y y s h))) v := (((FL.rf f49 M).st f49').r49 r)
    have hq : ∀ a, a < 3 → pl2 x y a < cB (cK v i) ^ cL v i a := fun a ha => by
      have := (room_le hc ha).1
      unfold pl2
      rcases (show a = 0 ∨ a = 1 ∨ a = 2 by omega) with rfl | rfl | rfl
      · rw [if_pos rfl]; omega
      · rw [if_neg (by omega), if_pos rfl]; omega
      · rw [if_neg (by omega), if_neg (by omega)]; exact this
    obtain ⟨B, p1, p2⟩ := R_numOf hA rA hi hc hq
    have p1' : q_CL 157 [.inr (.inr (some 49)), .inl (nI i), .inl (nI x), .inl (nI y), .inl (nI 0)] (stL M 49 18 (lN (T + mI_ v i s w h x y + am x x s w * am y y s h))) = some (some (.inr (.inl (lN (npI v i (pl2 x y))))), B) := p1
    have hB := p2.sh hA
    have rB := p2.ri rA
    have nl := npI_lt hc hq
    have e7B : gL B 49 17 = lN W := (p2.gl 49 17).trans (by rw [gL_stL, if_neg (by omega)]; exact e7)
    have e8B : gL B 49 18 = lN (T + mI_ v i s w h x y + am x x s w * am y y s h) := (p2.gl 49 18).trans (by rw [gL_stL, if_pos ⟨rfl, rfl⟩])
    have fB : FL f49 M B := ((FL.rf f49 M).st f49').tr (FL.of p2)
    have en : mI_ v i s w h x (y + 1) = mI_ v i s w h x y + (am x x s w * am y y s h - tmS v i s w h x y) := rfl
    rw [E_X12_means_107, if_neg (nI_ge hy2 (by omega))]
    simp only [m_fL hM, Option.bind_some, e8, R_am (f := x) (t := x) (s := s) (w := w) (show x < 64 by omega) (show x < 64 by omega) hs hw, R_am (f := y) (t := y) (s := s) (w := h) (show y < 64 by omega) (show y < 64 by omega) hs hh, z_rL, lN_mul, lN_add, m_sL hM, m_sel hA, p1', lg_cmp_eq, pk_lEQ (show npI v i (pl2 x y) < 2 ^ 63 by omega) (show 0 < 2 ^ 63 by omega), nI_1]
    by_cases n0 : npI v i (pl2 x y) = 0
    · rw [if_pos n0]
      have t0 : tmS v i s w h x y = 0 := by unfold tmS; rw [if_pos n0]
      obtain ⟨M1, f7, f8, f9, f10, k1, k2, k3, k4⟩ := ih (y + 1) (by omega) hB rB e7B (by rw [e8B, en, t0, Nat.sub_zero, Nat.add_assoc]) (some (.inr (.inl (lN (npI v i (pl2 x y)))))) none d9 d10
      exact ⟨M1, f7, f8, f9, f10, k1, fB.tr k2, k3, k4⟩
    rw [if_neg n0]
    obtain ⟨C, q1, q2, q3⟩ := R_placed hB rB hi hc (n := npI v i (pl2 x y) - 1) (by omega)
    have hC := q2.sh hB
    have rC := q2.ri rB
    have e7C : gL C 49 17 = lN W := (q2.gl 49 17).trans e7B
    have e8C : gL C 49 18 = lN (T + mI_ v i s w h x y + am x x s w * am y y s h) := (q2.gl 49 18).trans e8B
    have fC : FL f49 M C := fB.tr (FL.of q2)
    have pl := plI_lt hc (show npI v i (pl2 x y) - 1 < cS v i by omega)
    have pl0 := pl 0 (by omega)
    have pl1 := pl 1 (by omega)
    have rm0 := room_le hc (show 0 < 3 by omega)
    have rm1 := room_le hc (show 1 < 3 by omega)
    simp only [m_sel hB, Option.bind_some, lN_sub (show 1 ≤ npI v i (pl2 x y) by omega), q1, z_rV, m_lo hC, m_a3 hC (Or.inl rfl) (show 0 < 3 by omega), m_a3 hC (Or.inl rfl) (show 1 < 3 by omega), q3 0 (by omega), q3 1 (by omega), m_fL hC, e8C]
    have hN : plI v i (npI v i (pl2 x y) - 1) 0 < 2 ^ 31 ∧ plI v i (npI v i (pl2 x y) - 1) 1 < 2 ^ 31 := by omega
    have eT : tmS v i s w h x y = if plI v i (npI v i (pl2 x y) - 1) 0 < s ∧ plI v i (npI v i (pl2 x y) - 1) 1 < s then am2 x (plI v i (npI v i (pl2 x y) - 1) 0) s w * am2 y (plI v i (npI v i (pl2 x y) - 1) 1) s h else 0 := by unfold tmS; rw [if_neg n0]
    generalize plI v i (npI v i (pl2 x y) - 1) 0 = a at *
    generalize plI v i (npI v i (pl2 x y) - 1) 1 = b at *
    have skip : ¬ (a < s ∧ b < s) → ∀ d7 d8 d9 d10, ∃ M1 f7 f8 f9 f10, q_RL T_X12_means (107, [some (.inr (.inr (some 49))), some (.inl (nI i)), some (.inl (nI s)), some (.inl (nI w)), some (.inl (nI h)), some (.inl (nI x)), some (.inl (nI (y + 1))), d7, d8, d9, d10], [], C) = q_RL T_X12_means (98, [some (.inr (.inr (some 49))), some (.inl (nI i)), some (.inl (nI s)), some (.inl (nI w)), some (.inl (nI h)), some (.inl (nI (x + 1))), some (.inl (nI s)), f7, f8, f9, f10], [], M1) ∧ FL f49 M M1 ∧ gL M1 49 17 = lN W ∧ gL M1 49 18 = lN (T + mI_ v i s w h x s) := fun z d7 d8 d9 d10 => by
      have t0 : tmS v i s w h x y = 0 := by rw [eT, if_neg z]
      obtain ⟨M1, f7, f8, f9, f10, k1, k2, k3, k4⟩ := ih (y + 1) (by omega) hC rC e7C (by rw [e8C, en, t0, Nat.sub_zero, Nat.add_assoc]) d7 d8 d9 d10
      exact ⟨M1, f7, f8, f9, f10, k1, fC.tr k2, k3, k4⟩
    by_cases ca : s ≤ a
    · rw [if_pos (nI_le ca (by omega))]
      exact skip (fun z => by omega) _ _ _ _
    rw [if_neg (nI_ge (by omega) (by omega))]
    by_cases cb : b < s
    rotate_left
    · rw [if_neg (nI_nlt (by omega) (by omega))]
      exact skip (fun z => cb z.2) _ _ _ _
    rw [if_pos (nI_lt cb (by omega))]
    have eT2 : tmS v i s w h x y = am2 x a s w * am2 y b s h := by rw [eT, if_pos ⟨by omega, cb⟩]
    have go : ∀ d7 d8 d9 d10, ∃ M1 f7 f8 f9 f10, q_RL T_X12_means (107, [some (.inr (.inr (some 49))), some (.inl (nI i)), some (.inl (nI s)), some (.inl (nI w)), some (.inl (nI h)), some (.inl (nI x)), some (.inl (nI (y + 1))), d7, d8, d9, d10], [], stL C 49 18 (lN (T + mI_ v i s w h x y + am x x s w * am y y s h) - lN (am2 x a s w * am2 y b s h))) = q_RL T_X12_means (98, [some (.inr (.inr (some 49))), some (.inl (nI i)), some (.inl (nI s)), some (.inl (nI w)), some (.inl (nI h)), some (.inl (nI (x + 1))), some (.inl (nI s)), f7, f8, f9, f10], [], M1) ∧ FL f49 M M1 ∧ gL M1 49 17 = lN W ∧ gL M1 49 18 = lN (T + mI_ v i s w h x s) := fun d7 d8 d9 d10 => by
      rw [← eT2, lN_sub (by omega)]
      obtain ⟨M1, f7, f8, f9, f10, k1, k2, k3, k4⟩ := ih (y + 1) (by omega) (M := stL C 49 18 (lN (T + mI_ v i s w h x y + am x x s w * am y y s h - tmS v i s w h x y))) hC (((FL.rf f49 C).st f49').r49 rC) (by rw [gL_stL, if_neg (by omega)]; exact e7C) (by rw [gL_stL, if_pos ⟨rfl, rfl⟩, en]; congr 1; omega) d7 d8 d9 d10
      exact ⟨M1, f7, f8, f9, f10, k1, (fC.st f49').tr k2, k3, k4⟩
    have ax : x < 64 := by omega
    have aa : a < 64 := by omega
    have ay : y < 64 := by omega
    have ab : b < 64 := by omega
    have W1 : am2 x a s w = if x ≤ a then am x a s w else am a x s w := rfl
    have W2 : am2 y b s h = if y ≤ b then am y b s h else am b y s h := rfl
    by_cases cx : x ≤ a
    · rw [if_pos cx] at W1
      rw [if_pos (nI_le cx (by omega)), E_X12_means_223, if_pos (nI_le cx (by omega)), R_am aa ax hs hw, ← W1]
      simp only [z_rL, Option.bind_some]
      by_cases cy : y ≤ b
      · rw [if_pos cy] at W2
        rw [if_pos (nI_le cy (by omega)), if_pos (nI_le cy (by omega)), R_am ab ay hs hh, ← W2]
        simp only [z_rL, Option.bind_some, m_sL hC, lN_mul, nI_1]
        exact go _ _ _ _
      · rw [if_neg cy] at W2
        rw [if_neg (nI_ge (by omega) (by omega)), if_neg (nI_ge (by omega) (by omega)), R_am ay ab hs hh, ← W2]
        simp only [z_rL, Option.bind_some, m_sL hC, lN_mul, nI_1]
        exact go _ _ _ _
    · rw [if_neg cx] at W1
      rw [if_neg (nI_ge (by omega) (by omega)), E_X12_means_223, if_neg (nI_ge (by omega) (by omega)), R_am ax aa hs hw, ← W1]
      simp only [z_rL, Option.bind_some]
      by_cases cy : y ≤ b
      · rw [if_pos cy] at W2
        rw [if_pos (nI_le cy (by omega)), if_pos (nI_le cy (by omega)), R_am ab ay hs hh, ← W2]
        simp only [z_rL, Option.bind_some, m_sL hC, lN_mul, nI_1]
        exact go _ _ _ _
      · rw [if_neg cy] at W2
        rw [if_neg (nI_ge (by omega) (by omega)), if_neg (nI_ge (by omega) (by omega)), R_am ay ab hs hh, ← W2]
        simp only [z_rL, Option.bind_some, m_sL hC, lN_mul, nI_1]
        exact go _ _ _ _
