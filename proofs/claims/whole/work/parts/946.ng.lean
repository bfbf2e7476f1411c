/-! ===== THE REFERENCE: out, forge, image, back, ask, lay ===== -/
theorem ix3 (x : Int32) {n : Nat} (hn : n + 1 < 2 ^ 31) : x < 0 ∨ (¬ x < 0 ∧ nI n < x ∧ ¬ x ≤ nI n) ∨ ∃ j, j ≤ n ∧ x = nI j := by
  rcases pk_ix x hn with z | z | ⟨j, hj, e⟩
  · exact Or.inl z
  · right
    left
    have b1 : (nI (n + 1)).toInt ≤ x.toInt := Int32.le_iff_toInt_le.mp z
    rw [nI_toInt (by omega)] at b1
    refine ⟨fun y => ?_, Int32.lt_iff_toInt_lt.mpr (by rw [nI_toInt (by omega)]; omega), fun y => ?_⟩
    · have := Int32.lt_iff_toInt_lt.mp y
      rw [show (0 : Int32) = nI 0 from nI_0.symm, nI_toInt (by omega)] at this
      omega
    · have := Int32.le_iff_toInt_le.mp y
      rw [nI_toInt (by omega)] at this
      omega
  · exact Or.inr (Or.inr ⟨j, by omega, e⟩)
/-- a frame: ints off P, longs off A -/
def FG (P A : Nat → Nat → Prop) (M M1 : q_M) : Prop := M1.1 = M.1 ∧ M1.2.1 = M.2.1 ∧ M1.2.2.2.2 = M.2.2.2.2 ∧ (∀ a k, ¬ P a k → gI M1 a k = gI M a k) ∧ ∀ a k, ¬ A a k → gL M1 a k = gL M a k
theorem FG.rf (P A : Nat → Nat → Prop) (M : q_M) : FG P A M M := ⟨rfl, rfl, rfl, fun _ _ _ => rfl, fun _ _ _ => rfl⟩
theorem FG.tr {P A : Nat → Nat → Prop} {M M1 M2 : q_M} (a : FG P A M M1) (b : FG P A M1 M2) : FG P A M M2 := ⟨b.1.trans a.1, b.2.1.trans a.2.1, b.2.2.1.trans a.2.2.1, fun x k h => (b.2.2.2.1 x k h).trans (a.2.2.2.1 x k h), fun x k h => (b.2.2.2.2 x k h).trans (a.2.2.2.2 x k h)⟩
theorem FG.wk {P A Q B : Nat → Nat → Prop} {M M1 : q_M} (f : FG P A M M1) (h : ∀ a k, P a k → Q a k) (g : ∀ a k, A a k → B a k) : FG Q B M M1 := ⟨f.1, f.2.1, f.2.2.1, fun a k q => f.2.2.2.1 a k fun z => q (h a k z), fun a k q => f.2.2.2.2 a k fun p => q (g a k p)⟩
theorem FG.sI {P A : Nat → Nat → Prop} {M M1 : q_M} (f : FG P A M M1) {a k : Nat} {x : Int32} (h : P a k) : FG P A M (stI M1 a k x) := by
  refine ⟨f.1, f.2.1, f.2.2.1, fun b j hb => ?_, f.2.2.2.2⟩
  rw [gI_stI]
  by_cases e : b = a ∧ j = k
  · obtain ⟨rfl, rfl⟩ := e
    exact absurd h hb
  · rw [if_neg e]; exact f.2.2.2.1 b j hb
theorem FG.sL {P A : Nat → Nat → Prop} {M M1 : q_M} (f : FG P A M M1) {a k : Nat} {x : Int64} (h : A a k) : FG P A M (stL M1 a k x) := by
  refine ⟨f.1, f.2.1, f.2.2.1, f.2.2.2.1, fun b j hb => ?_⟩
  rw [gL_stL]
  by_cases e : b = a ∧ j = k
  · obtain ⟨rfl, rfl⟩ := e
    exact absurd h hb
  · rw [if_neg e]; exact f.2.2.2.2 b j hb
theorem FG.sh {P A : Nat → Nat → Prop} {M M1 : q_M} (f : FG P A M M1) (h : SH M) : SH M1 := by
  obtain ⟨a, b, c, _⟩ := f
  unfold SH gR gN at *
  rw [a, b, c]; exact h
theorem FG.f2 {A : Nat → Prop} {M M1 : q_M} (f : F2 A M M1) : FG sc2 (fun a _ => A a) M M1 := f
/-- the bytes that are out -/
def XI (M : q_M) (bt : Nat → Int32) (n : Nat) : Prop := gI M 49 20 = nI n ∧ n ≤ 2700 ∧ ∀ k, k < n → gI M 62 k = bt k
theorem m_ou {M : q_M} (h : SH M) : q_fR M 12 49 19 = some (some 62) := m_fR h (by decide)
theorem m_a13 {M : q_M} (h : SH M) {k : Nat} (hk : k < 2700) : q_aI M 13 62 (nI k) = some (gI M 62 k) := y_aI h (by omega) (by omega) rfl hk (by decide)
theorem m_b13 {M : q_M} (h : SH M) {k : Nat} {x : Int32} (hk : k < 2700) : q_bI M 13 62 (nI k) x = some (stI M 62 k x) := y_bI h (by omega) (by omega) rfl hk (by decide)
theorem R_outR {M : q_M} (h : SH M) {bt : Nat → Int32} {n : Nat} (x : XI M bt n) (x1 : Int32) : (¬ (∃ i, i < n ∧ x1 = nI i) ∧ q_CL 225 [.inr (.inr (some 49)), .inl x1] M = some (some (.inl (-1)), M)) ∨ ∃ i, i < n ∧ x1 = nI i ∧ q_CL 225 [.inr (.inr (some 49)), .inl x1] M = some (some (.inl (bt i &&& nI 255)), M) := by
  obtain ⟨e1, e2, e3⟩ := x
  rw [C_X12_out]
  simp only [m_fI h, Option.bind_some, e1]
  rcases pk_ix x1 (show n < 2 ^ 31 by omega) with z | z | ⟨i, hi, rfl⟩
  · left
    refine ⟨?_, if_pos z⟩
    rintro ⟨i, hi, rfl⟩
    exact nI_pos (by omega) z
  · left
    refine ⟨?_, ?_⟩
    · rintro ⟨i, hi, rfl⟩
      exact nI_ge hi (by omega) z
    · by_cases y : x1 < 0
      · rw [if_pos y]
      · rw [if_neg y, if_neg]
        intro u
        have a := Int32.le_iff_toInt_le.mp z
        have b := Int32.lt_iff_toInt_lt.mp u
        omega
  · right
    refine ⟨i, hi, rfl, ?_⟩
    rw [if_neg (nI_pos (by omega)), if_pos (nI_lt hi (by omega))]
    simp only [m_ou h, Option.bind_some, m_a13 h (show i < 2700 by omega), e3 i hi]
/-- a byte -/
def byI (x : Int32) : Int32 := Int8.toInt32 (Int32.toInt8 (Int8.toInt32 (Int32.toInt8 x)))
theorem R_forge {M : q_M} (h : SH M) {bt : Nat → Int32} {n : Nat} (x : XI M bt n) (x1 x2 : Int32) : (¬ (∃ i, i < n ∧ x1 = nI i) ∧ q_CL 226 [.inr (.inr (some 49)), .inl x1, .inl x2] M = some (some (.inl (-1)), M)) ∨ ∃ i M1, i < n ∧ x1 = nI i ∧ q_CL 226 [.inr (.inr (some 49)), .inl x1, .inl x2] M = some (some (.inl (bt i &&& nI 255)), M1) ∧ FG (fun a _ => a = 62) (fun _ _ => False) M M1 ∧ XI M1 (va_up bt i (byI x2)) n := by
  have x' := x
  obtain ⟨e1, e2, e3⟩ := x
  rw [C_X12_forge]
  simp only [m_fI h, Option.bind_some, e1]
  rcases pk_ix x1 (show n < 2 ^ 31 by omega) with z | z | ⟨i, hi, rfl⟩
  · left
    refine ⟨?_, if_pos z⟩
    rintro ⟨i, hi, rfl⟩
    exact nI_pos (by omega) z
  · left
    refine ⟨?_, ?_⟩
    · rintro ⟨i, hi, rfl⟩
      exact nI_ge hi (by omega) z
    · by_cases y : x1 < 0
      · rw [if_pos y]
      · rw [if_neg y, if_neg]
        intro u
        have a := Int32.le_iff_toInt_le.mp z
        have b := Int32.lt_iff_toInt_lt.mp u
        omega
  · right
    refine ⟨i, stI M 62 i (byI x2), hi, rfl, ?_, (FG.rf _ _ M).sI rfl, (gI_oth (by omega)).trans e1, e2, fun k hk => ?_⟩
    · rw [if_neg (nI_pos (by omega)), if_pos (nI_lt hi (by omega))]
      simp only [m_ou h, Option.bind_some, m_a13 h (show i < 2700 by omega), e3 i hi, m_b13 h (show i < 2700 by omega)]
      rfl
    · by_cases q : k = i
      · subst q; rw [gI_self, va_up_self]
      · rw [gI_oth (by omega), va_up_ne _ _ q]; exact e3 k hk
/-- an image of the array -/
def RIo (M : q_M) (p : Nat) (v : Nat → Nat) (w : Nat → Int32) : Prop := (∀ i, i < 60190 → ¬ (49 ≤ i ∧ i < 55) → gL M 51 (60190 * p + i) = lN (v i) ∧ v i < 2 ^ 62) ∧ ∀ j, j < 6 → gL M 51 (60190 * p + (49 + j)) = (w j).toInt64
theorem m_im {M : q_M} (h : SH M) : q_fR M 12 49 1 = some (some 51) := m_fR h (by decide)
theorem m_id {M : q_M} (h : SH M) : q_fR M 12 49 2 = some (some 52) := m_fR h (by decide)
theorem m_a51 {M : q_M} (h : SH M) {k : Nat} (hk : k < 120380) : q_aL M 51 (nI k) = some (gL M 51 k) := y_aL h (by omega) (by omega) rfl hk (by decide)
theorem m_b51 {M : q_M} (h : SH M) {k : Nat} {v : Int64} (hk : k < 120380) : q_bL M 51 (nI k) v = some (stL M 51 k v) := y_bL h (by omega) (by omega) rfl hk (by decide)
theorem m_a52 {M : q_M} (h : SH M) {k : Nat} (hk : k < 2) : q_aI M 16 52 (nI k) = some (gI M 52 k) := y_aI h (by omega) (by omega) rfl hk (by decide)
theorem m_b52 {M : q_M} (h : SH M) {k : Nat} {x : Int32} (hk : k < 2) : q_bI M 16 52 (nI k) x = some (stI M 52 k x) := y_bI h (by omega) (by omega) rfl hk (by decide)
theorem R_image {v : Nat → Nat} {w : Nat → Int32} {M : q_M} (h : SH M) (r : RI M v) (wi : WI M w) (x1 : Int32) : (¬ (∃ p, p < 2 ∧ x1 = nI p) ∧ q_CL 230 [.inr (.inr (some 49)), .inl x1] M = some (some (.inl (nI 0)), M)) ∨ ∃ p M1, p < 2 ∧ x1 = nI p ∧ q_CL 230 [.inr (.inr (some 49)), .inl x1] M = some (some (.inl (nI 1)), M1) ∧ FG (fun a k => a = 52 ∧ k = p) (fun a k => a = 51 ∧ 60190 * p ≤ k ∧ k < 60190 * p + 60190) M M1 ∧ RIo M1 p v w ∧ gI M1 52 p = nI 1 := by
  rw [C_X12_image]
  have t0 : nI 0 = 0 ∨ nI 0 = 1 := Or.inl rfl
  have t1 : nI 1 = 0 ∨ nI 1 = 1 := Or.inr rfl
  simp only [if_pos t0]
  rcases ix3 x1 (show 1 + 1 < 2 ^ 31 by omega) with z | ⟨z1, z2, z3⟩ | ⟨p, hp, rfl⟩
  · left
    refine ⟨?_, if_pos z⟩
    rintro ⟨p, hp, rfl⟩
    exact nI_pos (by omega) z
  · left
    refine ⟨?_, by rw [if_neg z1, if_neg z3]⟩
    rintro ⟨p, hp, rfl⟩
    exact z3 (nI_le (by omega) (by omega))
  right
  rw [if_neg (nI_pos (by omega)), if_pos (nI_le hp (by omega))]
  have key : ∀ m y, y + m = 60190 → ∀ {M : q_M}, SH M → RI M v → WI M w → (∀ k, k < y → gL M 51 (60190 * p + k) = gL M 50 k) → ∃ M1, q_RL T_X12_image (13, [some (.inr (.inr (some 49))), some (.inl (nI p)), some (.inl (nI y))], [], M) = some (some (.inl (nI 1)), M1) ∧ FG (fun a k => a = 52 ∧ k = p) (fun a k => a = 51 ∧ 60190 * p ≤ k ∧ k < 60190 * p + 60190) M M1 ∧ RIo M1 p v w ∧ gI M1 52 p = nI 1 := by
    intro m
    induction m with
    | zero =>
      intro y hy M h r wi e
      refine ⟨stI M 52 p (nI 1 &&& 1), ?_, (FG.rf _ _ M).sI ⟨rfl, rfl⟩, ⟨fun i hi hn => ?_, fun j hj => ?_⟩, ?_⟩
      · rw [E_X12_image_13, if_pos (nI_le (by omega) (by omega))]
        simp only [m_id h, Option.bind_some, m_b52 h (show p < 2 by omega), if_pos t1]
      · rw [gL_stI, e i (by omega)]; exact r i hi hn
      · rw [gL_stI, e (49 + j) (by omega)]; exact wi j hj
      · rw [gI_self]; decide +kernel
    | succ m ih =>
      intro y hy M h r wi e
      have hA : SH (stL M 51 (60190 * p + y) (gL M 50 y)) := h
      obtain ⟨M1, p1, p2, p3⟩ := ih (y + 1) (by omega) (M := stL M 51 (60190 * p + y) (gL M 50 y)) h (fun i hi hn => by rw [gL_stL, if_neg (by omega)]; exact r i hi hn) (fun j hj => by rw [gL_stL, if_neg (by omega)]; exact wi j hj) (fun k hk => by
        rw [gL_stL, gL_stL, if_neg (show ¬ (50 = 51 ∧ k = 60190 * p + y) by omega)]
        by_cases q : k = y
        · subst q; rw [if_pos ⟨rfl, rfl⟩]
        · rw [if_neg (by omega)]; exact e k (by omega))
      refine ⟨M1, ?_, ((FG.rf _ _ M).sL ⟨rfl, by omega, by omega⟩).tr p2, p3⟩
      rw [E_X12_image_13, if_neg (nI_ge (by omega) (by omega))]
      simp only [m_im h, m_s h, Option.bind_some, m_aL h (show y < 60190 by omega), pk_mul, nI_add, m_b51 h (show 60190 * p + y < 120380 by omega), nI_1, p1]
  obtain ⟨M1, p1, p2, p3, p4⟩ := key 60190 0 (by omega) h r wi (fun k hk => by omega)
  exact ⟨p, M1, by omega, rfl, p1, p2, p3, p4⟩
theorem R_back {M : q_M} (h : SH M) {f : Nat → Bool} (hf : ∀ p, p < 2 → gI M 52 p = nI (bN (f p))) {V : Nat → Nat → Nat} {W : Nat → Nat → Int32} (hv : ∀ p, p < 2 → f p = true → RIo M p (V p) (W p)) (x1 : Int32) : (¬ (∃ p, p < 2 ∧ x1 = nI p ∧ f p = true) ∧ q_CL 231 [.inr (.inr (some 49)), .inl x1] M = some (some (.inl (nI 0)), M)) ∨ ∃ p M1, p < 2 ∧ x1 = nI p ∧ f p = true ∧ q_CL 231 [.inr (.inr (some 49)), .inl x1] M = some (some (.inl (nI 1)), M1) ∧ FG (fun _ _ => False) (fun a _ => a = 50) M M1 ∧ RI M1 (V p) ∧ WI M1 (W p) := by
  rw [C_X12_back]
  have t0 : nI 0 = 0 ∨ nI 0 = 1 := Or.inl rfl
  have t1 : nI 1 = 0 ∨ nI 1 = 1 := Or.inr rfl
  simp only [if_pos t0]
  rcases ix3 x1 (show 1 + 1 < 2 ^ 31 by omega) with z | ⟨z1, z2, z3⟩ | ⟨p, hp, rfl⟩
  · left
    refine ⟨?_, if_pos z⟩
    rintro ⟨p, hp, rfl, _⟩
    exact nI_pos (by omega) z
  · left
    refine ⟨?_, by rw [if_neg z1, if_pos z2]⟩
    rintro ⟨p, hp, rfl, _⟩
    exact z3 (nI_le (by omega) (by omega))
  rw [if_neg (nI_pos (by omega)), if_neg (nI_nlt hp (by omega))]
  simp only [m_id h, Option.bind_some, m_a52 h (show p < 2 by omega), hf p (by omega), bN0]
  cases ef : f p with
  | false =>
    left
    refine ⟨?_, if_pos rfl⟩
    rintro ⟨p2, hp2, e, e2⟩
    have : p = p2 := (nI_eq (by omega) (by omega)).mp e
    subst this
    rw [ef] at e2
    cases e2
  | true =>
    right
    rw [if_neg (by simp)]
    obtain ⟨hr, hw⟩ := hv p (by omega) ef
    have key : ∀ m y, y + m = 60190 → ∀ {M : q_M}, SH M → (∀ k, k < 60190 → gL M 51 (60190 * p + k) = if ¬ (49 ≤ k ∧ k < 55) then lN (V p k) else (W p (k - 49)).toInt64) → (∀ k, k < y → gL M 50 k = gL M 51 (60190 * p + k)) → ∃ M1, q_RL T_X12_back (22, [some (.inr (.inr (some 49))), some (.inl (nI p)), some (.inl (nI y))], [], M) = some (some (.inl (nI 1)), M1) ∧ FG (fun _ _ => False) (fun a _ => a = 50) M M1 ∧ ∀ k, k < 60190 → gL M1 50 k = if ¬ (49 ≤ k ∧ k < 55) then lN (V p k) else (W p (k - 49)).toInt64 := by
      intro m
      induction m with
      | zero =>
        intro y hy M h e1 e
        refine ⟨M, ?_, FG.rf _ _ M, fun k hk => (e k (by omega)).trans (e1 k hk)⟩
        rw [E_X12_back_22, if_pos (nI_le (by omega) (by omega)), if_pos t1]
      | succ m ih =>
        intro y hy M h e1 e
        obtain ⟨M1, p1, p2, p3⟩ := ih (y + 1) (by omega) (M := stL M 50 y (gL M 51 (60190 * p + y))) h (fun k hk => by rw [gL_stL, if_neg (by omega)]; exact e1 k hk) (fun k hk => by
          rw [gL_stL, gL_stL, if_neg (show ¬ (51 = 50 ∧ 60190 * p + k = y) by omega)]
          by_cases q : k = y
          · subst q; rw [if_pos ⟨rfl, rfl⟩]
          · rw [if_neg (by omega)]; exact e k (by omega))
        refine ⟨M1, ?_, ((FG.rf (fun _ _ => False) (fun a _ => a = 50) M).sL (k := y) rfl).tr p2, p3⟩
        rw [E_X12_back_22, if_neg (nI_ge (by omega) (by omega))]
        simp only [m_im h, m_s h, Option.bind_some, pk_mul, nI_add, m_a51 h (show 60190 * p + y < 120380 by omega), m_bL h (show y < 60190 by omega), nI_1, p1]
    obtain ⟨M1, p1, p2, p3⟩ := key 60190 0 (by omega) h (fun k hk => by
      by_cases c : 49 ≤ k ∧ k < 55
      · rw [if_neg (fun q => q c)]
        have := hw (k - 49) (by omega)
        rw [show 49 + (k - 49) = k by omega] at this
        exact this
      · rw [if_pos c]; exact (hr k hk c).1) (fun k hk => by omega)
    refine ⟨p, M1, by omega, rfl, ef, p1, p2, fun i hi hn => ?_, fun j hj => ?_⟩
    · rw [p3 i hi, if_pos hn]; exact ⟨rfl, (hr i hi hn).2⟩
    · rw [p3 (49 + j) (by omega), if_neg (by omega), show 49 + j - 49 = j by omega]
/-- what an ask answers -/
def akV (v : Nat → Nat) (k t : Nat) : Int64 := if v (1060 + 4 * k) = 0 then -3 else if t = 5 then lN (v (1060 + 4 * k) - 1) else if v (1060 + 4 * k) - 1 = t / 2 then (if t = 4 then lN (cS v (v (1060 + 4 * k + 1))) else lN (v (1060 + 4 * k + 1 + t % 2))) else -2
theorem R_askR {v : Nat → Nat} (wc : WC v) (hk : ∀ k, k < 8 → v (1060 + 4 * k) = 3 → v (1060 + 4 * k + 1) < v 0) {M : q_M} (h : SH M) (r : RI M v) (x1 x2 : Int32) : (¬ (∃ k t, k < 8 ∧ x1 = nI k ∧ t < 6 ∧ x2 = nI t) ∧ q_CL 229 [.inr (.inr (some 49)), .inl x1, .inl x2] M = some (some (.inr (.inl (-4))), M)) ∨ ∃ k t, k < 8 ∧ x1 = nI k ∧ t < 6 ∧ x2 = nI t ∧ q_CL 229 [.inr (.inr (some 49)), .inl x1, .inl x2] M = some (some (.inr (.inl (akV v k t))), M) := by
  rw [C_X12_ask]
  rcases ix3 x1 (show 7 + 1 < 2 ^ 31 by omega) with z | ⟨z1, z2, z3⟩ | ⟨k, hk8, rfl⟩
  · left
    refine ⟨?_, if_pos z⟩
    rintro ⟨p, t, hp, rfl, _⟩
    exact nI_pos (by omega) z
  · left
    refine ⟨?_, by rw [if_neg z1, if_pos z2]⟩
    rintro ⟨p, t, hp, rfl, _⟩
    exact z3 (nI_le (by omega) (by omega))
  rw [if_neg (nI_pos (by omega)), if_neg (nI_nlt hk8 (by omega))]
  rcases ix3 x2 (show 5 + 1 < 2 ^ 31 by omega) with z | ⟨z1, z2, z3⟩ | ⟨t, ht, rfl⟩
  · left
    refine ⟨?_, if_pos z⟩
    rintro ⟨p, t, hp, _, ht, rfl⟩
    exact nI_pos (by omega) z
  · left
    refine ⟨?_, by rw [if_neg z1, if_neg z3]⟩
    rintro ⟨p, t, hp, _, ht, rfl⟩
    exact z3 (nI_le (by omega) (by omega))
  rw [if_neg (nI_pos (by omega)), if_pos (nI_le ht (by omega))]
  right
  refine ⟨k, t, by omega, rfl, by omega, rfl, ?_⟩
  have r0 := r (1060 + 4 * k) (by omega) (by omega)
  have r1 := r (1060 + 4 * k + 1) (by omega) (by omega)
  have r2 := r (1060 + 4 * k + 1 + t % 2) (by omega) (by omega)
  unfold akV
  simp only [m_s h, Option.bind_some, pk_mul, nI_add, m_aL h (show 1060 + 4 * k < 60190 by omega), r0.1, lg_cmp_eq, pk_lEQ (show v (1060 + 4 * k) < 2 ^ 63 by omega) (show 0 < 2 ^ 63 by omega), nI_eq (show t < 2 ^ 31 by omega) (show 5 < 2 ^ 31 by omega), nI_eq (show t < 2 ^ 31 by omega) (show 4 < 2 ^ 31 by omega), if_neg (show ¬ nI 2 = 0 by decide +kernel), pk_div (show t < 2 ^ 31 by omega) (show 0 < 2 by omega) (show 2 < 2 ^ 31 by omega), pk_rem (show t < 2 ^ 31 by omega) (show 0 < 2 by omega) (show 2 < 2 ^ 31 by omega), nI_l (show t / 2 < 2 ^ 31 by omega), m_aL h (show 1060 + 4 * k + 1 < 60190 by omega), r1.1, lN_i, m_aL h (show 1060 + 4 * k + 1 + t % 2 < 60190 by omega), r2.1, m_sel h]
  by_cases c0 : v (1060 + 4 * k) = 0
  · simp only [if_pos c0]
  simp only [if_neg c0]
  simp only [lN_sub (show 1 ≤ v (1060 + 4 * k) by omega), pk_lEQ (show v (1060 + 4 * k) - 1 < 2 ^ 63 by omega) (show t / 2 < 2 ^ 63 by omega)]
  by_cases c5 : t = 5
  · simp only [if_pos c5]
  simp only [if_neg c5]
  by_cases c1 : v (1060 + 4 * k) - 1 = t / 2
  · simp only [if_pos c1]
    by_cases c4 : t = 4
    · simp only [if_pos c4]
      have hc := hk k (by omega) (by omega)
      have w0 := wc.1
      rcases R_size h r wc (nI (v (1060 + 4 * k + 1))) with ⟨n, e⟩ | ⟨i, hi, ei, e⟩
      · exact absurd ⟨_, hc, rfl⟩ n
      · have : v (1060 + 4 * k + 1) = i := (nI_eq (by omega) (by omega)).mp ei
        rw [e, this]
        rfl
    · simp only [if_neg c4]
      rw [pk_sub (show t / 2 * 2 ≤ t by omega), nI_add, show t - t / 2 * 2 = t % 2 by omega, m_aL h (show 1060 + 4 * k + 1 + t % 2 < 60190 by omega), r2.1]
      rfl
  · simp only [if_neg c1]
