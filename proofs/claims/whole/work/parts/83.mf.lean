/-! ===== THE REFERENCE: a shelf's slice ===== -/
/-- where shelf j's slice begins -/
def oS (j : Nat) : Nat := 1100 + 7 * j * 2110
theorem oS_b {j : Nat} (h : j < 4) : 1100 ≤ oS j ∧ oS j + 14770 ≤ 60180 := by unfold oS; omega
/-- ints off scratch and the slice's begin, longs off A -/
def FO (A : Nat → Prop) (M M1 : q_M) : Prop := M1.1 = M.1 ∧ M1.2.1 = M.2.1 ∧ M1.2.2.2.2 = M.2.2.2.2 ∧ (∀ a k, ¬ scr a k → ¬ (a = 49 ∧ k = 13) → gI M1 a k = gI M a k) ∧ ∀ a k, ¬ A a → gL M1 a k = gL M a k
theorem FO.rf (A : Nat → Prop) (M : q_M) : FO A M M := ⟨rfl, rfl, rfl, fun _ _ _ _ => rfl, fun _ _ _ => rfl⟩
theorem FO.tr {A : Nat → Prop} {M M1 M2 : q_M} (a : FO A M M1) (b : FO A M1 M2) : FO A M M2 := ⟨b.1.trans a.1, b.2.1.trans a.2.1, b.2.2.1.trans a.2.2.1, fun x k h g => (b.2.2.2.1 x k h g).trans (a.2.2.2.1 x k h g), fun x k h => (b.2.2.2.2 x k h).trans (a.2.2.2.2 x k h)⟩
theorem FO.of {A : Nat → Prop} {M M1 : q_M} (f : FL A M M1) : FO A M M1 := ⟨f.1, f.2.1, f.2.2.1, fun a k h _ => f.2.2.2.1 a k h, f.2.2.2.2⟩
theorem FO.sO {A : Nat → Prop} {M M1 : q_M} (f : FO A M M1) {x : Int32} : FO A M (stI M1 49 13 x) := by
  refine ⟨f.1, f.2.1, f.2.2.1, fun b j hb hc => ?_, f.2.2.2.2⟩
  rw [gI_oth hc]; exact f.2.2.2.1 b j hb hc
theorem FO.st {A : Nat → Prop} {M M1 : q_M} (f : FO A M M1) {a k : Nat} {x : Int64} (h : A a) : FO A M (stL M1 a k x) := by
  refine ⟨f.1, f.2.1, f.2.2.1, f.2.2.2.1, fun b j hb => ?_⟩
  rw [gL_stL]
  by_cases e : b = a ∧ j = k
  · obtain ⟨rfl, rfl⟩ := e
    exact absurd h hb
  · rw [if_neg e]; exact f.2.2.2.2 b j hb
theorem FO.wk {A B : Nat → Prop} {M M1 : q_M} (f : FO A M M1) (h : ∀ a, A a → B a) : FO B M M1 := ⟨f.1, f.2.1, f.2.2.1, f.2.2.2.1, fun a k q => f.2.2.2.2 a k fun p => q (h a p)⟩
theorem FO.sh {A : Nat → Prop} {M M1 : q_M} (f : FO A M M1) (h : SH M) : SH M1 := by
  obtain ⟨a, b, c, _⟩ := f
  unfold SH gR gN at *
  rw [a, b, c]; exact h
theorem FO.ri {A : Nat → Prop} {M M1 : q_M} (f : FO A M M1) (h : ¬ A 50) {v : Nat → Nat} (r : RI M v) : RI M1 v := by
  intro i h1 h2
  rw [f.2.2.2.2 50 i h]; exact r i h1 h2
theorem FO.wi {A : Nat → Prop} {M M1 : q_M} (f : FO A M M1) (h : ¬ A 50) {w : Nat → Int32} (r : WI M w) : WI M1 w := fun j hj => by rw [f.2.2.2.2 50 _ h]; exact r j hj
/-- nothing but the slice's begin is set -/
theorem R_opens {v : Nat → Nat} {M : q_M} (h : SH M) (r : RI M v) (x : Int32) : (¬ (∃ j, j < 4 ∧ x = nI j ∧ v (oS j) = 1) ∧ ∃ M1, q_CL 175 [.inr (.inr (some 49)), .inl x] M = some (some (.inl (nI 0)), M1) ∧ FO (fun _ => False) M M1) ∨ ∃ j, j < 4 ∧ x = nI j ∧ v (oS j) = 1 ∧ q_CL 175 [.inr (.inr (some 49)), .inl x] M = some (some (.inl (nI 1)), stI M 49 13 (nI (oS j))) := by
  rw [C_X12_opens]
  have t0 : nI 0 = 0 ∨ nI 0 = 1 := Or.inl rfl
  have t1 : nI 1 = 0 ∨ nI 1 = 1 := Or.inr rfl
  simp only [if_pos t0, if_pos t1]
  rcases pk_ix x (show 4 < 2 ^ 31 by omega) with hx | hx | ⟨j, hj, rfl⟩
  · left
    refine ⟨?_, M, if_pos hx, FO.rf _ M⟩
    rintro ⟨j, hj, rfl, _⟩
    exact nI_pos (by omega) hx
  · left
    refine ⟨?_, M, ?_, FO.rf _ M⟩
    · rintro ⟨j, hj, rfl, _⟩
      exact nI_ge hj (by omega) hx
    · by_cases h0 : x < 0
      · rw [if_pos h0]
      · rw [if_neg h0, if_neg]
        intro q
        have a1 : (nI 4).toInt ≤ x.toInt := Int32.le_iff_toInt_le.mp hx
        have a2 : x.toInt ≤ (nI 3).toInt := Int32.le_iff_toInt_le.mp q
        rw [nI_toInt (by omega)] at a1 a2
        omega
  · have ob := oS_b hj
    have hA : SH (stI M 49 13 (nI (oS j))) := h
    have ro := r (oS j) (by omega) (by omega)
    rw [if_neg (nI_pos (by omega)), if_pos (nI_le (by omega) (by omega))]
    simp only [pk_mul, nI_add, show 1100 + 7 * j * 2110 = oS j from rfl, m_sI h, Option.bind_some, m_s hA, m_fI hA, gI_self, m_aL hA (show oS j < 60190 by omega), gL_stI, ro.1, lg_cmp_eq, pk_lEQ (show v (oS j) < 2 ^ 63 by omega) (show 1 < 2 ^ 63 by omega)]
    by_cases e : v (oS j) = 1
    · right
      exact ⟨j, hj, rfl, e, if_pos e⟩
    · left
      refine ⟨?_, _, if_neg e, (FO.rf _ M).sO⟩
      rintro ⟨j2, hj2, e2, e3⟩
      have : j = j2 := (nI_eq (by omega) (by omega)).mp e2
      subst this
      exact e e3
/-! the slice's fields, once it is open -/
theorem R_fld {v : Nat → Nat} {M : q_M} (h : SH M) (r : RI M v) {o : Nat} (ho : 1100 ≤ o ∧ o + 2110 ≤ 60180) (eo : gI M 49 13 = nI o) : q_CL 176 [.inr (.inr (some 49))] M = some (some (.inl (nI (v (o + 2)))), M) ∧ q_CL 177 [.inr (.inr (some 49))] M = some (some (.inl (nI (v (o + 3)))), M) ∧ q_CL 178 [.inr (.inr (some 49))] M = some (some (.inl (nI (v (o + 1)))), M) := by
  rw [C_X12_held, C_X12_pages, C_X12_curveOf]
  simp only [m_s h, m_fI h, Option.bind_some, eo, nI_add, m_aL h (show o + 2 < 60190 by omega), m_aL h (show o + 3 < 60190 by omega), m_aL h (show o + 1 < 60190 by omega), (r (o + 2) (by omega) (by omega)).1, (r (o + 3) (by omega) (by omega)).1, (r (o + 1) (by omega) (by omega)).1, lN_i]
  exact ⟨trivial, trivial, trivial⟩
theorem R_point {v : Nat → Nat} {M : q_M} (h : SH M) (r : RI M v) {o : Nat} (ho : 1100 ≤ o ∧ o + 2110 ≤ 60180) (eo : gI M 49 13 = nI o) {p k : Nat} (hp : p ≤ 300) (hk : k < 6) : q_CL 179 [.inr (.inr (some 49)), .inl (nI p), .inl (nI k)] M = some (some (.inr (.inl (lN (v (o + 4 + 6 * p + k))))), M) := by
  rw [C_X12_point]
  simp only [m_s h, m_fI h, Option.bind_some, eo, nI_add, pk_mul, m_aL h (show o + 4 + 6 * p + k < 60190 by omega), (r (o + 4 + 6 * p + k) (by omega) (by omega)).1]
theorem R_onP {v : Nat → Nat} {M : q_M} (h : SH M) (r : RI M v) {o : Nat} (ho : 1100 ≤ o ∧ o + 2110 ≤ 60180) (eo : gI M 49 13 = nI o) {k : Nat} (hk : k ≤ 305) : q_CL 180 [.inr (.inr (some 49)), .inl (nI k)] M = some (some (.inl (nI (v (o + 1804 + k)))), M) := by
  rw [C_X12_onPage]
  simp only [m_s h, m_fI h, Option.bind_some, eo, nI_add, m_aL h (show o + 1804 + k < 60190 by omega), (r (o + 1804 + k) (by omega) (by omega)).1, lN_i]
/-- the first point of a name -/
theorem R_named {v : Nat → Nat} {M : q_M} (h : SH M) (r : RI M v) {o : Nat} (ho : 1100 ≤ o ∧ o + 2110 ≤ 60180) (eo : gI M 49 13 = nI o) (hm : v (o + 2) ≤ 300) (hn : ∀ p, p < v (o + 2) → v (o + 4 + 6 * p) < 2 ^ 31) (x : Int32) : ((∀ p, p < v (o + 2) → x ≠ nI (v (o + 4 + 6 * p))) ∧ q_CL 184 [.inr (.inr (some 49)), .inl x] M = some (some (.inl (-1)), M)) ∨ ∃ p, p < v (o + 2) ∧ x = nI (v (o + 4 + 6 * p)) ∧ (∀ q, q < p → x ≠ nI (v (o + 4 + 6 * q))) ∧ q_CL 184 [.inr (.inr (some 49)), .inl x] M = some (some (.inl (nI p)), M) := by
  rw [C_X12_named]
  have key : ∀ n p, p + n = v (o + 2) → (∀ q, q < p → x ≠ nI (v (o + 4 + 6 * q))) → ((∀ p, p < v (o + 2) → x ≠ nI (v (o + 4 + 6 * p))) ∧ q_RL T_X12_named (2, [some (.inr (.inr (some 49))), some (.inl x), some (.inl (nI p))], [], M) = some (some (.inl (-1)), M)) ∨ ∃ p2, p2 < v (o + 2) ∧ x = nI (v (o + 4 + 6 * p2)) ∧ (∀ q, q < p2 → x ≠ nI (v (o + 4 + 6 * q))) ∧ q_RL T_X12_named (2, [some (.inr (.inr (some 49))), some (.inl x), some (.inl (nI p))], [], M) = some (some (.inl (nI p2)), M) := by
    intro n
    induction n with
    | zero =>
      intro p hp q
      left
      refine ⟨by rw [← show p = v (o + 2) by omega]; exact q, ?_⟩
      rw [E_X12_named_2]
      simp only [m_sel h, Option.bind_some, (R_fld h r ho eo).1, z_rI]
      rw [if_pos (nI_le (by omega) (by omega))]
    | succ n ih =>
      intro p hp q
      have hv := hn p (by omega)
      have e0 := R_point h r ho eo (p := p) (k := 0) (by omega) (by omega)
      rw [Nat.add_zero] at e0
      rw [E_X12_named_2]
      simp only [m_sel h, Option.bind_some, (R_fld h r ho eo).1, z_rI, e0, z_rL, lg_cmp_eq, ← nI_l hv, nI_1]
      rw [if_neg (nI_ge (by omega) (by omega))]
      by_cases e : x = nI (v (o + 4 + 6 * p))
      · right
        refine ⟨p, by omega, e, q, ?_⟩
        rw [if_pos (by rw [e])]
      · rw [if_neg (fun g => e (by
          have := congrArg Int64.toInt32 g
          rw [lg_l2i_i2l, lg_l2i_i2l] at this
          exact this.symm))]
        exact ih (p + 1) (by omega) (fun y hy => by
          by_cases ey : y = p
          · rw [ey]; exact e
          · exact q y (by omega))
  exact key (v (o + 2)) 0 (by omega) (fun q hq => by omega)
