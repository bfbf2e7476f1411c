/-! ===== CURVES AS TREES OF BOXES ===== -/
/-- base, axis of a digit, its turn, the state behind it, rooms -/
abbrev Cm : Type := Nat × (Nat → Nat → Nat) × (Nat → Nat → Nat → Nat) × (Nat → Nat → Nat → Nat) × (Nat → Nat)
abbrev Bx : Type := (Nat → Nat) × (Nat → Nat) × Nat
/-- one digit further: lows, sides, state -/
def bs (c : Cm) (k : Nat) (b : Bx) (v : Nat) : Bx := (va_up b.1 (c.2.1 k b.2.2) (b.1 (c.2.1 k b.2.2) + c.2.2.1 k b.2.2 v * (b.2.1 (c.2.1 k b.2.2) / c.1)), va_up b.2.1 (c.2.1 k b.2.2) (b.2.1 (c.2.1 k b.2.2) / c.1), c.2.2.2.1 k b.2.2 v)
/-- the box at depth k with prefix p -/
def bx (c : Cm) : Nat → Nat → Bx
  | 0, _ => (fun _ => 0, c.2.2.2.2, 0)
  | k + 1, p => bs c k (bx c k (p / c.1)) (p % c.1)
def inb (b : Bx) (q : Nat → Nat) : Prop := ∀ a, a < 3 → b.1 a ≤ q a ∧ q a < b.1 a + b.2.1 a
/-- the axis that is cut, and what a part has -/
abbrev bxa (c : Cm) (k p : Nat) : Nat := c.2.1 k (bx c k p).2.2
abbrev bxp (c : Cm) (k p : Nat) : Nat := (bx c k p).2.1 (bxa c k p) / c.1
def Gd (c : Cm) (D : Nat) : Prop := 2 ≤ c.1 ∧ (∀ k p, k < D → p < c.1 ^ k → bxa c k p < 3 ∧ 0 < bxp c k p ∧ (bx c k p).2.1 (bxa c k p) = bxp c k p * c.1 ∧ ∀ v, v < c.1 → c.2.2.1 k (bx c k p).2.2 v < c.1 ∧ c.2.2.1 k (bx c k p).2.2 (c.2.2.1 k (bx c k p).2.2 v) = v) ∧ ∀ p, p < c.1 ^ D → ∀ a, a < 3 → (bx c D p).2.1 a = 1
theorem bx_kid {c : Cm} (hB : 2 ≤ c.1) (k p : Nat) {v : Nat} (hv : v < c.1) : bx c (k + 1) (p * c.1 + v) = bs c k (bx c k p) v := by
  have h1 : (p * c.1 + v) / c.1 = p := by
    rw [Nat.mul_comm, Nat.mul_add_div (by omega), Nat.div_eq_of_lt hv, Nat.add_zero]
  have h2 : (p * c.1 + v) % c.1 = v := by
    rw [Nat.mul_comm, Nat.mul_add_mod, Nat.mod_eq_of_lt hv]
  show bs c k (bx c k ((p * c.1 + v) / c.1)) ((p * c.1 + v) % c.1) = _
  rw [h1, h2]
/-- the digit towards a place -/
def dgt (c : Cm) (k p : Nat) (q : Nat → Nat) : Nat := c.2.2.1 k (bx c k p).2.2 ((q (bxa c k p) - (bx c k p).1 (bxa c k p)) / bxp c k p)
section TR
variable {c : Cm} {D : Nat}
theorem kid_in (g : Gd c D) {k p : Nat} (hk : k < D) (hp : p < c.1 ^ k) {v : Nat} (hv : v < c.1) (q : Nat → Nat) : inb (bs c k (bx c k p) v) q ↔ inb (bx c k p) q ∧ c.2.2.1 k (bx c k p).2.2 v = (q (bxa c k p) - (bx c k p).1 (bxa c k p)) / bxp c k p := by
  obtain ⟨g1, g2, g3⟩ := g
  obtain ⟨h1, h2, h3, h4⟩ := g2 k p hk hp
  have hu := (h4 v hv).1
  generalize hu0 : c.2.2.1 k (bx c k p).2.2 v = u at *
  have hm : u * bxp c k p + bxp c k p ≤ bxp c k p * c.1 := by
    have := Nat.mul_le_mul_left (bxp c k p) (show u + 1 ≤ c.1 by omega)
    rw [Nat.mul_add, Nat.mul_one, Nat.mul_comm] at this
    exact this
  constructor
  · intro h
    have ha := h (bxa c k p) h1
    have e1 : (bs c k (bx c k p) v).1 (bxa c k p) = (bx c k p).1 (bxa c k p) + u * bxp c k p := by
      show va_up _ _ _ _ = _
      rw [va_up_self, hu0]
    have e2 : (bs c k (bx c k p) v).2.1 (bxa c k p) = bxp c k p := va_up_self _ _ _
    rw [e1, e2] at ha
    refine ⟨fun a h5 => ?_, ?_⟩
    · by_cases e : a = bxa c k p
      · rw [e, h3]
        omega
      · have := h a h5
        have e3 : (bs c k (bx c k p) v).1 a = (bx c k p).1 a := va_up_ne _ _ e
        have e4 : (bs c k (bx c k p) v).2.1 a = (bx c k p).2.1 a := va_up_ne _ _ e
        rw [e3, e4] at this
        exact this
    · symm
      apply Nat.div_eq_of_lt_le
      · omega
      · rw [Nat.succ_mul]
        omega
  · rintro ⟨h, hq⟩ a h5
    by_cases e : a = bxa c k p
    · rw [e]
      have e1 : (bs c k (bx c k p) v).1 (bxa c k p) = (bx c k p).1 (bxa c k p) + u * bxp c k p := by
        show va_up _ _ _ _ = _
        rw [va_up_self, hu0]
      have e2 : (bs c k (bx c k p) v).2.1 (bxa c k p) = bxp c k p := va_up_self _ _ _
      rw [e1, e2]
      have ha := h (bxa c k p) h1
      have h6 : u * bxp c k p ≤ q (bxa c k p) - (bx c k p).1 (bxa c k p) := by
        rw [hq]
        exact Nat.div_mul_le_self _ _
      have h7 : q (bxa c k p) - (bx c k p).1 (bxa c k p) < (u + 1) * bxp c k p := by
        rw [hq]
        exact (Nat.div_lt_iff_lt_mul h2).mp (Nat.lt_succ_self _)
      rw [Nat.succ_mul] at h7
      omega
    · have e3 : (bs c k (bx c k p) v).1 a = (bx c k p).1 a := va_up_ne _ _ e
      have e4 : (bs c k (bx c k p) v).2.1 a = (bx c k p).2.1 a := va_up_ne _ _ e
      rw [e3, e4]
      exact h a h5

theorem dgt_lt (g : Gd c D) {k p : Nat} (hk : k < D) (hp : p < c.1 ^ k) {q : Nat → Nat} (h : inb (bx c k p) q) : dgt c k p q < c.1 := by
  obtain ⟨g1, g2, g3⟩ := g
  obtain ⟨h1, h2, h3, h4⟩ := g2 k p hk hp
  refine (h4 _ ?_).1
  have := h _ h1
  rw [Nat.div_lt_iff_lt_mul h2]
  rw [h3, Nat.mul_comm] at this
  omega
theorem dgt_in (g : Gd c D) {k p : Nat} (hk : k < D) (hp : p < c.1 ^ k) {q : Nat → Nat} (h : inb (bx c k p) q) : inb (bs c k (bx c k p) (dgt c k p q)) q := by
  refine (kid_in g hk hp (dgt_lt g hk hp h) q).mpr ⟨h, ?_⟩
  obtain ⟨g1, g2, g3⟩ := g
  obtain ⟨h1, h2, h3, h4⟩ := g2 k p hk hp
  refine (h4 _ ?_).2
  have := h _ h1
  rw [Nat.div_lt_iff_lt_mul h2]
  rw [h3, Nat.mul_comm] at this
  omega
theorem dgt_eq (g : Gd c D) {k p : Nat} (hk : k < D) (hp : p < c.1 ^ k) {q : Nat → Nat} {v : Nat} (hv : v < c.1) (h : inb (bs c k (bx c k p) v) q) : v = dgt c k p q := by
  have h1 := (kid_in g hk hp hv q).mp h
  obtain ⟨g1, g2, g3⟩ := g
  have h2 := ((g2 k p hk hp).2.2.2 v hv).2
  rw [h1.2] at h2
  exact h2.symm
theorem kid_lt {B k p v : Nat} (hp : p < B ^ k) (hv : v < B) : p * B + v < B ^ (k + 1) := by
  rw [Nat.pow_succ]
  have := Nat.mul_le_mul_right B (show p + 1 ≤ B ^ k from hp)
  rw [Nat.succ_mul] at this
  omega
/-- the way to a place -/
def np (c : Cm) (q : Nat → Nat) : Nat → Nat
  | 0 => 0
  | k + 1 => np c q k * c.1 + dgt c k (np c q k) q
theorem np_in (g : Gd c D) {q : Nat → Nat} (h : inb (bx c 0 0) q) : ∀ k, k ≤ D → np c q k < c.1 ^ k ∧ inb (bx c k (np c q k)) q
  | 0, _ => ⟨by show 0 < c.1 ^ 0; rw [Nat.pow_zero]; omega, h⟩
  | k + 1, hk => by
    obtain ⟨h1, h2⟩ := np_in g h k (by omega)
    have h3 := dgt_lt g (by omega) h1 h2
    refine ⟨kid_lt h1 h3, ?_⟩
    show inb (bx c (k + 1) (np c q k * c.1 + dgt c k (np c q k) q)) q
    rw [bx_kid g.1 k _ h3]
    exact dgt_in g (by omega) h1 h2
theorem np_eq (g : Gd c D) {q : Nat → Nat} : ∀ k p, k ≤ D → p < c.1 ^ k → inb (bx c k p) q → inb (bx c 0 0) q ∧ np c q k = p
  | 0, p, _, hp, h => by
    rw [Nat.pow_zero] at hp
    have : p = 0 := by omega
    subst this
    exact ⟨h, rfl⟩
  | k + 1, p, hk, hp, h => by
    have hB := g.1
    have hp2 : p / c.1 < c.1 ^ k := by
      rw [Nat.div_lt_iff_lt_mul (by omega), ← Nat.pow_succ]
      exact hp
    have hv : p % c.1 < c.1 := Nat.mod_lt _ (by omega)
    have h2 : inb (bs c k (bx c k (p / c.1)) (p % c.1)) q := h
    obtain ⟨h3, h4⟩ := np_eq g k (p / c.1) (by omega) hp2 ((kid_in g (by omega) hp2 hv q).mp h2).1
    refine ⟨h3, ?_⟩
    show np c q k * c.1 + dgt c k (np c q k) q = p
    rw [h4, ← dgt_eq g (by omega) hp2 hv h2, Nat.mul_comm]
    exact Nat.div_add_mod p c.1
/-- the PLACE of a NUMBER -/
def plc (c : Cm) (D n : Nat) : Nat → Nat := (bx c D n).1
theorem leaf_in (g : Gd c D) {n : Nat} (hn : n < c.1 ^ D) {q : Nat → Nat} : inb (bx c D n) q ↔ ∀ a, a < 3 → q a = plc c D n a := by
  constructor
  · intro h a ha
    have h1 := h a ha
    rw [g.2.2 n hn a ha] at h1
    show q a = (bx c D n).1 a
    omega
  · intro h a ha
    rw [h a ha, g.2.2 n hn a ha]
    show (bx c D n).1 a ≤ (bx c D n).1 a ∧ (bx c D n).1 a < _
    omega
theorem plc_in (g : Gd c D) {n : Nat} (hn : n < c.1 ^ D) : inb (bx c 0 0) (plc c D n) ∧ np c (plc c D n) D = n := np_eq g D n (Nat.le_refl D) hn ((leaf_in g hn).mpr fun _ _ => rfl)
theorem plc_np (g : Gd c D) {q : Nat → Nat} (h : inb (bx c 0 0) q) : ∀ a, a < 3 → plc c D (np c q D) a = q a := fun a ha => ((leaf_in g (np_in g h D (Nat.le_refl D)).1).mp (np_in g h D (Nat.le_refl D)).2 a ha).symm
theorem np_div (g : Gd c D) {q : Nat → Nat} (h : inb (bx c 0 0) q) : ∀ j k, k + j ≤ D → np c q (k + j) / c.1 ^ j = np c q k
  | 0, k, _ => by rw [Nat.add_zero, Nat.pow_zero, Nat.div_one]
  | j + 1, k, hj => by
    have h1 := np_in g h (k + j) (by omega)
    have h3 := dgt_lt g (show k + j < D by omega) h1.1 h1.2
    rw [Nat.pow_succ, Nat.mul_comm, ← Nat.div_div_eq_div_mul]
    have : np c q (k + (j + 1)) / c.1 = np c q (k + j) := by
      show (np c q (k + j) * c.1 + dgt c (k + j) (np c q (k + j)) q) / c.1 = _
      rw [Nat.mul_comm, Nat.mul_add_div (by have := g.1; omega), Nat.div_eq_of_lt h3, Nat.add_zero]
    rw [this]
    exact np_div g h j k (by omega)
/-- a box has just the PLACES of the NUMBERS with its prefix -/
theorem box_inside (g : Gd c D) {n k : Nat} (hn : n < c.1 ^ D) (hk : k ≤ D) : inb (bx c k (n / c.1 ^ (D - k))) (plc c D n) := by
  obtain ⟨h1, h2⟩ := plc_in g hn
  have h3 := np_in g h1 k hk
  have h4 := np_div g h1 (D - k) k (by omega)
  rw [show k + (D - k) = D by omega, h2] at h4
  rw [h4]
  exact h3.2
theorem box_cover (g : Gd c D) {k p : Nat} (hk : k ≤ D) (hp : p < c.1 ^ k) {q : Nat → Nat} (h : inb (bx c k p) q) : np c q D < c.1 ^ D ∧ np c q D / c.1 ^ (D - k) = p ∧ ∀ a, a < 3 → plc c D (np c q D) a = q a := by
  obtain ⟨h1, h2⟩ := np_eq g k p hk hp h
  refine ⟨(np_in g h1 D (Nat.le_refl D)).1, ?_, plc_np g h1⟩
  have h4 := np_div g h1 (D - k) k (by omega)
  rw [show k + (D - k) = D by omega] at h4
  rw [h4, h2]
/-! windows -/
def inw (lo hi : Nat → Nat) (q : Nat → Nat) : Prop := ∀ a, a < 3 → lo a ≤ q a ∧ q a ≤ hi a
/-- a box meets a window; a box isn't all in it -/
def mtw (lo hi : Nat → Nat) (b : Bx) : Prop := ∀ a, a < 3 → b.1 a ≤ hi a ∧ lo a < b.1 a + b.2.1 a
def nin (lo hi : Nat → Nat) (b : Bx) : Prop := ∃ a, a < 3 ∧ (b.1 a < lo a ∨ hi a + 1 < b.1 a + b.2.1 a)
theorem side_pos (g : Gd c D) {k p : Nat} (hk : k ≤ D) (hp : p < c.1 ^ k) : ∀ a, a < 3 → 0 < (bx c k p).2.1 a := by
  intro a ha
  have hB := g.1
  have hn : p * c.1 ^ (D - k) < c.1 ^ D := by
    have h1 : c.1 ^ D = c.1 ^ k * c.1 ^ (D - k) := by rw [← Nat.pow_add]; congr 1; omega
    rw [h1]
    exact Nat.mul_lt_mul_of_pos_right hp (Nat.pow_pos (by omega))
  have h2 := box_inside g hn hk
  rw [Nat.mul_div_cancel _ (Nat.pow_pos (by omega))] at h2
  have := h2 a ha
  omega
theorem mtw_iff (g : Gd c D) {k p : Nat} (hk : k ≤ D) (hp : p < c.1 ^ k) {lo hi : Nat → Nat} (hw : ∀ a, a < 3 → lo a ≤ hi a) : mtw lo hi (bx c k p) ↔ ∃ n, n < c.1 ^ D ∧ n / c.1 ^ (D - k) = p ∧ inw lo hi (plc c D n) := by
  have hs := side_pos g hk hp
  constructor
  · intro h
    have hq : inb (bx c k p) (fun a => max ((bx c k p).1 a) (lo a)) := by
      intro a ha
      have := h a ha
      have := hs a ha
      show (bx c k p).1 a ≤ max ((bx c k p).1 a) (lo a) ∧ max ((bx c k p).1 a) (lo a) < _
      omega
    obtain ⟨h1, h2, h3⟩ := box_cover g hk hp hq
    refine ⟨_, h1, h2, fun a ha => ?_⟩
    rw [h3 a ha]
    have := h a ha
    have := hw a ha
    show lo a ≤ max ((bx c k p).1 a) (lo a) ∧ max ((bx c k p).1 a) (lo a) ≤ hi a
    omega
  · rintro ⟨n, h1, h2, h3⟩ a ha
    have h4 := box_inside g h1 hk a ha
    rw [h2] at h4
    have := h3 a ha
    omega
theorem nin_iff (g : Gd c D) {k p : Nat} (hk : k ≤ D) (hp : p < c.1 ^ k) {lo hi : Nat → Nat} : nin lo hi (bx c k p) ↔ ∃ n, n < c.1 ^ D ∧ n / c.1 ^ (D - k) = p ∧ ¬ inw lo hi (plc c D n) := by
  have hs := side_pos g hk hp
  constructor
  · rintro ⟨b, hb, h⟩
    have hq : ∃ q, inb (bx c k p) q ∧ ¬ (lo b ≤ q b ∧ q b ≤ hi b) := by
      rcases h with h | h
      · refine ⟨(bx c k p).1, fun a ha => ?_, by omega⟩
        have := hs a ha
        omega
      · refine ⟨fun a => (bx c k p).1 a + (bx c k p).2.1 a - 1, fun a ha => ?_, ?_⟩
        · have := hs a ha
          show (bx c k p).1 a ≤ (bx c k p).1 a + (bx c k p).2.1 a - 1 ∧ (bx c k p).1 a + (bx c k p).2.1 a - 1 < _
          omega
        · show ¬ (lo b ≤ (bx c k p).1 b + (bx c k p).2.1 b - 1 ∧ (bx c k p).1 b + (bx c k p).2.1 b - 1 ≤ hi b)
          omega
    obtain ⟨q, h4, h5⟩ := hq
    obtain ⟨h1, h2, h3⟩ := box_cover g hk hp h4
    refine ⟨_, h1, h2, fun hi2 => h5 ?_⟩
    have := hi2 b hb
    rw [h3 b hb] at this
    exact this
  · rintro ⟨n, h1, h2, h3⟩
    have h4 := box_inside g h1 hk
    rw [h2] at h4
    have h5 : ∃ a, a < 3 ∧ ¬ (lo a ≤ plc c D n a ∧ plc c D n a ≤ hi a) := by
      apply Classical.byContradiction
      intro hn
      apply h3
      intro a ha
      apply Classical.byContradiction
      intro h6
      exact hn ⟨a, ha, h6⟩
    obtain ⟨a, ha, h6⟩ := h5
    refine ⟨a, ha, ?_⟩
    have := h4 a ha
    omega
end TR
/-! the least NUMBER from one on with a property -/
def Nx (P : Nat → Prop) (S f : Nat) (r : Option Nat) : Prop := match r with
  | none => ∀ n, f ≤ n → n < S → ¬ P n
  | some n => f ≤ n ∧ n < S ∧ P n ∧ ∀ m, f ≤ m → m < n → ¬ P m
theorem Nx.uniq {P : Nat → Prop} {S f : Nat} {r r2 : Option Nat} (h : Nx P S f r) (h2 : Nx P S f r2) : r = r2 := by
  cases r with
  | none =>
    cases r2 with
    | none => rfl
    | some n => exact absurd h2.2.2.1 (h n h2.1 h2.2.1)
  | some n =>
    cases r2 with
    | none => exact absurd h.2.2.1 (h2 n h.1 h.2.1)
    | some m =>
      rcases Nat.lt_trichotomy n m with q | q | q
      · exact absurd h.2.2.1 (h2.2.2.2 n h.1 q)
      · rw [q]
      · exact absurd h2.2.2.1 (h.2.2.2 m h2.1 q)
