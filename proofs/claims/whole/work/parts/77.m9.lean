/-! ===== THE REFERENCE: windows ===== -/
def WI (M : q_M) (w : Nat → Int32) : Prop := ∀ j, j < 6 → gL M 50 (49 + j) = (w j).toInt64
theorem FM.wi {M M1 : q_M} (f : FM M M1) {w : Nat → Int32} (h : WI M w) : WI M1 w := fun j hj => by rw [f.gl]; exact h j hj
theorem R_low {M : q_M} (h : SH M) (x y z : Int32) : q_CL 163 [.inr (.inr (some 49)), .inl x, .inl y, .inl z] M = some (none, stL (stL (stL M 50 49 x.toInt64) 50 50 y.toInt64) 50 51 z.toInt64) := by
  have h1 : SH (stL M 50 49 x.toInt64) := h
  have h2 : SH (stL (stL M 50 49 x.toInt64) 50 50 y.toInt64) := h
  rw [C_X12_low]
  simp only [m_s h, Option.bind_some, m_bL h (show 49 < 60190 by omega), m_s h1, m_bL h1 (show 50 < 60190 by omega), m_s h2, m_bL h2 (show 51 < 60190 by omega)]
theorem R_high {M : q_M} (h : SH M) (x y z : Int32) : q_CL 164 [.inr (.inr (some 49)), .inl x, .inl y, .inl z] M = some (none, stL (stL (stL M 50 52 x.toInt64) 50 53 y.toInt64) 50 54 z.toInt64) := by
  have h1 : SH (stL M 50 52 x.toInt64) := h
  have h2 : SH (stL (stL M 50 52 x.toInt64) 50 53 y.toInt64) := h
  rw [C_X12_high]
  simp only [m_s h, Option.bind_some, m_bL h (show 52 < 60190 by omega), m_s h1, m_bL h1 (show 53 < 60190 by omega), m_s h2, m_bL h2 (show 54 < 60190 by omega)]
theorem i2l_ltI (x y : Int32) : x.toInt64 < y.toInt64 ↔ x < y := by
  rw [Int64.lt_iff_toInt_lt, Int32.lt_iff_toInt_lt, Int32.toInt_toInt64, Int32.toInt_toInt64]
theorem i2l_leI (x y : Int32) : x.toInt64 ≤ y.toInt64 ↔ x ≤ y := by
  rw [Int64.le_iff_toInt_le, Int32.le_iff_toInt_le, Int32.toInt_toInt64, Int32.toInt_toInt64]
theorem l0_i : lN 0 = (nI 0).toInt64 := by decide +kernel
/-- the window's corners, as a window of curve i -/
def isW (v : Nat → Nat) (i : Nat) (w : Nat → Int32) (lo hi : Nat → Nat) : Prop := ∀ a, a < 3 → w a = nI (lo a) ∧ w (3 + a) = nI (hi a) ∧ lo a ≤ hi a ∧ hi a < cB (cK v i) ^ cL v i a
theorem R_isW {M : q_M} {v : Nat → Nat} {w : Nat → Int32} (h : SH M) (r : RI M v) (wi : WI M w) {i : Nat} (hi : i < 8) (hc : okI v i) : (¬ (∃ lo hi, isW v i w lo hi) ∧ q_CL 165 [.inr (.inr (some 49)), .inl (nI i)] M = some (some (.inl (nI 0)), M)) ∨ (∃ lo hi, isW v i w lo hi ∧ q_CL 165 [.inr (.inr (some 49)), .inl (nI i)] M = some (some (.inl (nI 1)), M)) := by
  rw [C_X12_isWindow]
  have no : ∀ n a, a + n = 3 → q_RL T_X12_isWindow (4, [some (.inr (.inr (some 49))), some (.inl (nI i)), some (.inl (nI 0)), some (.inl (nI a))], [], M) = some (some (.inl (nI 0)), M) := by
    intro n
    induction n with
    | zero =>
      intro a ha
      rw [E_X12_isWindow_4, if_pos (nI_le (by omega) (by omega)), if_pos (Or.inl nI_0)]
    | succ n ih =>
      intro a ha
      rw [E_X12_isWindow_4, if_neg (nI_ge (by omega) (by omega)), if_pos nI_0, nI_1]
      exact ih (a + 1) (by omega)
  have key : ∀ n a, a + n = 3 → (∀ b, b < a → ∃ l u, w b = nI l ∧ w (3 + b) = nI u ∧ l ≤ u ∧ u < cB (cK v i) ^ cL v i b) → (¬ (∃ lo hi, isW v i w lo hi) ∧ q_RL T_X12_isWindow (4, [some (.inr (.inr (some 49))), some (.inl (nI i)), some (.inl (nI 1)), some (.inl (nI a))], [], M) = some (some (.inl (nI 0)), M)) ∨ (∃ lo hi, isW v i w lo hi ∧ q_RL T_X12_isWindow (4, [some (.inr (.inr (some 49))), some (.inl (nI i)), some (.inl (nI 1)), some (.inl (nI a))], [], M) = some (some (.inl (nI 1)), M)) := by
    intro n
    induction n with
    | zero =>
      intro a ha q
      right
      rw [show a = 3 by omega] at q ⊢
      obtain ⟨l0, u0, a1, a2, a3, a4⟩ := q 0 (by omega)
      obtain ⟨l1, u1, b1, b2, b3, b4⟩ := q 1 (by omega)
      obtain ⟨l2, u2, c1, c2, c3, c4⟩ := q 2 (by omega)
      refine ⟨fun a => if a = 0 then l0 else if a = 1 then l1 else l2, fun a => if a = 0 then u0 else if a = 1 then u1 else u2, ?_, ?_⟩
      · intro x hx
        rcases (show x = 0 ∨ x = 1 ∨ x = 2 by omega) with rfl | rfl | rfl
        · exact ⟨a1, a2, a3, a4⟩
        · exact ⟨b1, b2, b3, b4⟩
        · exact ⟨c1, c2, c3, c4⟩
      · rw [E_X12_isWindow_4, if_pos (nI_le (by omega) (by omega)), if_pos (Or.inr (by decide +kernel))]
    | succ n ih =>
      intro a ha q
      have rl := room_le hc (show a < 3 by omega)
      have e0 := no n (a + 1) (by omega)
      rw [E_X12_isWindow_4, if_neg (nI_ge (by omega) (by omega)), if_neg (show ¬ nI 1 = 0 by decide +kernel)]
      simp only [m_s h, Option.bind_some, nI_add, nI_1, m_aL h (show 49 + a < 60190 by omega), m_aL h (show 52 + a < 60190 by omega), wi a (by omega), show gL M 50 (52 + a) = (w (3 + a)).toInt64 by rw [show 52 + a = 49 + (3 + a) by omega]; exact wi (3 + a) (by omega), m_sel h, R_can h r hi (show a < 3 by omega) hc, z_rI, lg_cmp_lt, lg_cmp_gt, lg_cmp_ge, l0_i, i2l_ltI, i2l_leI, e0]
      by_cases c1 : w a < nI 0
      · left
        refine ⟨?_, if_pos c1⟩
        rintro ⟨lo, hi2, hw⟩
        have := hw a (by omega)
        rw [this.1] at c1
        exact nI_nlt (Nat.zero_le _) (by omega) c1
      rw [if_neg c1]
      by_cases c2 : w (3 + a) < w a
      · left
        refine ⟨?_, if_pos c2⟩
        rintro ⟨lo, hi2, hw⟩
        have := hw a (by omega)
        rw [this.1, this.2.1] at c2
        exact nI_nlt this.2.2.1 (by omega) c2
      rw [if_neg c2]
      by_cases c3 : nI (cB (cK v i) ^ cL v i a) ≤ w (3 + a)
      · left
        refine ⟨?_, if_pos c3⟩
        rintro ⟨lo, hi2, hw⟩
        have := hw a (by omega)
        rw [this.2.1] at c3
        exact nI_ge this.2.2.2 (by omega) c3
      rw [if_neg c3]
      have ok : ∃ l u, w a = nI l ∧ w (3 + a) = nI u ∧ l ≤ u ∧ u < cB (cK v i) ^ cL v i a := by
        obtain ⟨l, hl, el⟩ := nI_of (x := w a) (by rw [nI_0] at c1; exact c1)
        rw [el] at c2
        rcases pk_ix (w (3 + a)) (show cB (cK v i) ^ cL v i a < 2 ^ 31 by omega) with q | q | ⟨u, hu, eu⟩
        · exfalso
          apply c2
          rw [Int32.lt_iff_toInt_lt] at q ⊢
          rw [nI_toInt hl]
          have e0 : (0 : Int32).toInt = 0 := rfl
          omega
        · exact absurd q c3
        · refine ⟨l, u, el, eu, ?_, hu⟩
          rw [eu] at c2
          have := mt (nI_ltI (show u < 2 ^ 31 by omega) hl).mpr c2
          omega
      exact ih (a + 1) (by omega) (fun b hb => by
        by_cases e : b = a
        · rw [e]; exact ok
        · exact q b (by omega))
  exact key 3 0 (by omega) (fun b hb => by omega)
/-! is a box asked for -/
def askP (o : Nat) (wl wh : Nat → Nat) (b : Bx) : Prop := (o = 1 ∧ mtw wl wh b) ∨ (o = 0 ∧ nin wl wh b)
theorem R_ask7 {M : q_M} {v : Nat → Nat} {w : Nat → Int32} (h : SH M) (wi : WI M w) {i : Nat} (hc : okI v i) {wl wh : Nat → Nat} (hw : isW v i w wl wh) {b : Bx} (bf : BXf M b.1 b.2.1) (sp : ∀ a, a < 3 → 0 < b.2.1 a) {o : Nat} {a m n : Nat} (ha : a < 3) (hm : m = 0 ∨ m = 1) (hn : n = 0 ∨ n = 1) : ∃ m1 n1, (m1 = 0 ∨ m1 = 1) ∧ (n1 = 0 ∨ n1 = 1) ∧ (m1 = 1 ↔ m = 1 ∧ (b.1 a ≤ wh a ∧ wl a < b.1 a + b.2.1 a)) ∧ (n1 = 1 ↔ n = 1 ∧ ¬ (b.1 a < wl a ∨ wh a + 1 < b.1 a + b.2.1 a)) ∧ q_RL T_X12_isAsked (7, [some (.inr (.inr (some 49))), some (.inl (nI o)), some (.inl (nI m)), some (.inl (nI n)), some (.inl (nI a))], [], M) = q_RL T_X12_isAsked (7, [some (.inr (.inr (some 49))), some (.inl (nI o)), some (.inl (nI m1)), some (.inl (nI n1)), some (.inl (nI (a + 1)))], [], M) := by
  have rl := room_le hc ha
  have e := bf a ha
  have s := sp a ha
  have q := hw a ha
  have z1 : ¬ nI 1 = 0 := by decide +kernel
  rw [E_X12_isAsked_7, if_neg (nI_ge (show a < 3 by omega) (by omega))]
  simp only [m_s h, m_lo h, m_hi h, Option.bind_some, nI_add, nI_1, m_aL h (show 49 + a < 60190 by omega), m_aL h (show 52 + a < 60190 by omega), wi a (by omega), show gL M 50 (52 + a) = (w (3 + a)).toInt64 by rw [show 52 + a = 49 + (3 + a) by omega]; exact wi (3 + a) (by omega), lg_cmp_lt, lg_cmp_gt, lg_cmp_ge, i2l_ltI, i2l_leI, m_a3 h (Or.inl rfl) ha, m_a3 h (Or.inr (Or.inl rfl)) ha, e.1, e.2.1, q.1, q.2.1, nI_ltI (show b.1 a < 2 ^ 31 by omega) (show wl a < 2 ^ 31 by omega), nI_ltI (show wh a < 2 ^ 31 by omega) (show b.1 a < 2 ^ 31 by omega), nI_ltI (show wh a < 2 ^ 31 by omega) (show b.1 a + b.2.1 a - 1 < 2 ^ 31 by omega), nI_ltI (show b.1 a + b.2.1 a - 1 < 2 ^ 31 by omega) (show wl a < 2 ^ 31 by omega)]
  have z0 : (nI 0 = 0) = True := eq_true nI_0
  rcases hm with rfl | rfl <;> rcases hn with rfl | rfl <;> by_cases c1 : b.1 a < wl a <;> by_cases c2 : wh a < b.1 a <;> by_cases c3 : wh a < b.1 a + b.2.1 a - 1 <;> by_cases c4 : b.1 a + b.2.1 a - 1 < wl a <;>
    first
    | (exfalso; omega)
    | (refine ⟨0, 0, by omega, by omega, by omega, by omega, ?_⟩; simp only [z0, z1, c1, c2, c3, c4, reduceIte])
    | (refine ⟨0, 1, by omega, by omega, by omega, by omega, ?_⟩; simp only [z0, z1, c1, c2, c3, c4, reduceIte])
    | (refine ⟨1, 0, by omega, by omega, by omega, by omega, ?_⟩; simp only [z0, z1, c1, c2, c3, c4, reduceIte])
    | (refine ⟨1, 1, by omega, by omega, by omega, by omega, ?_⟩; simp only [z0, z1, c1, c2, c3, c4, reduceIte])
theorem R_ask {M : q_M} {v : Nat → Nat} {w : Nat → Int32} (h : SH M) (wi : WI M w) {i : Nat} (hc : okI v i) {wl wh : Nat → Nat} (hw : isW v i w wl wh) {b : Bx} (bf : BXf M b.1 b.2.1) (sp : ∀ a, a < 3 → 0 < b.2.1 a) {o : Nat} (ho : o = 0 ∨ o = 1) : (askP o wl wh b ∧ q_CL 166 [.inr (.inr (some 49)), .inl (nI o)] M = some (some (.inl (nI 1)), M)) ∨ (¬ askP o wl wh b ∧ q_CL 166 [.inr (.inr (some 49)), .inl (nI o)] M = some (some (.inl (nI 0)), M)) := by
  obtain ⟨m1, n1, a1, a2, a3, a4, a5⟩ := R_ask7 h wi hc hw bf sp (o := o) (a := 0) (by omega) (Or.inr rfl) (Or.inr rfl)
  obtain ⟨m2, n2, b1, b2, b3, b4, b5⟩ := R_ask7 h wi hc hw bf sp (o := o) (a := 1) (by omega) a1 a2
  obtain ⟨m3, n3, c1, c2, c3, c4, c5⟩ := R_ask7 h wi hc hw bf sp (o := o) (a := 2) (by omega) b1 b2
  have z1 : ¬ nI 1 = 0 := by decide +kernel
  rw [C_X12_isAsked, a5, b5, c5, E_X12_isAsked_7, if_pos (nI_le (show 3 ≤ 3 by omega) (by omega))]
  have hm : mtw wl wh b ↔ m3 = 1 := by
    rw [c3, b3, a3]
    constructor
    · intro q
      exact ⟨⟨⟨rfl, q 0 (by omega)⟩, q 1 (by omega)⟩, q 2 (by omega)⟩
    · rintro ⟨⟨⟨_, q0⟩, q1⟩, q2⟩ a ha
      rcases (show a = 0 ∨ a = 1 ∨ a = 2 by omega) with rfl | rfl | rfl
      · exact q0
      · exact q1
      · exact q2
  have hn : nin wl wh b ↔ ¬ n3 = 1 := by
    rw [c4, b4, a4]
    constructor
    · rintro ⟨a, ha, q⟩ ⟨⟨⟨_, q0⟩, q1⟩, q2⟩
      rcases (show a = 0 ∨ a = 1 ∨ a = 2 by omega) with rfl | rfl | rfl
      · exact q0 q
      · exact q1 q
      · exact q2 q
    · intro q
      by_cases q0 : b.1 0 < wl 0 ∨ wh 0 + 1 < b.1 0 + b.2.1 0
      · exact ⟨0, by omega, q0⟩
      · by_cases q1 : b.1 1 < wl 1 ∨ wh 1 + 1 < b.1 1 + b.2.1 1
        · exact ⟨1, by omega, q1⟩
        · by_cases q2 : b.1 2 < wl 2 ∨ wh 2 + 1 < b.1 2 + b.2.1 2
          · exact ⟨2, by omega, q2⟩
          · exact absurd ⟨⟨⟨rfl, q0⟩, q1⟩, q2⟩ q
  have t0 : nI 0 = 0 ∨ nI 0 = 1 := Or.inl rfl
  have t1 : nI 1 = 0 ∨ nI 1 = 1 := Or.inr rfl
  rcases ho with rfl | rfl
  · rw [if_pos nI_0]
    rcases c2 with rfl | rfl
    · left
      refine ⟨Or.inr ⟨rfl, hn.mpr (by omega)⟩, ?_⟩
      rw [if_pos nI_0, if_pos t1]
    · right
      refine ⟨?_, ?_⟩
      · rintro (⟨q, _⟩ | ⟨_, q⟩)
        · omega
        · exact hn.mp q rfl
      · rw [if_neg z1, if_pos t0]
  · rw [if_neg z1]
    rcases c1 with rfl | rfl
    · right
      refine ⟨?_, ?_⟩
      · rintro (⟨_, q⟩ | ⟨q, _⟩)
        · have := hm.mp q; omega
        · omega
      · rw [if_pos t0]
    · left
      refine ⟨Or.inl ⟨rfl, hm.mpr rfl⟩, ?_⟩
      rw [if_pos t1]
