/-! ===== THE CLASS: does a box meet the window? ===== -/
theorem K_me5 {M : q_M} (h : SH M) {k o : Nat} (hk : k < 61) (ho : o = 0 ∨ o = 1) {b : Bx} {wl wh : Nat → Nat} (e : ∀ a, a < 3 → gI M (27 + a) k = nI (b.1 a) ∧ gI M (31 + a) k = nI (b.2.1 a)) (hb : ∀ a, a < 3 → 1 ≤ b.2.1 a ∧ b.1 a + b.2.1 a ≤ 2 ^ 20) (wv : WV M wl wh) (hw : ∀ a, a < 3 → wl a < 2 ^ 20 ∧ wh a < 2 ^ 20) : ∀ m a, a + m = 3 → ∀ B : Bool, (B = true ↔ ∀ x, x < a → wl x ≤ b.1 x ∧ b.1 x + b.2.1 x ≤ wh x + 1) → (∀ x, x < a → b.1 x ≤ wh x ∧ wl x < b.1 x + b.2.1 x) → ∀ d5 d6, ∃ R : Bool, q_RL T_X10_meets (5, [some (.inr (.inr (some 25))), some (.inl (nI k)), some (.inl (nI o)), some (.inl (nI (bN B))), some (.inl (nI a)), d5, d6], [], M) = some (some (.inl (nI (bN R))), M) ∧ (R = true ↔ askP o wl wh b) := by
  have t0 : nI 0 = 0 ∨ nI 0 = 1 := Or.inl rfl
  have t1 : nI 1 = 0 ∨ nI 1 = 1 := Or.inr rfl
  have out : ∀ a, a < 3 → ¬ (b.1 a ≤ wh a ∧ wl a < b.1 a + b.2.1 a) → ∃ R : Bool, (if nI o = 0 then (some (some (.inl (nI 1)), M) : Option (Option q_V × q_M)) else some (some (.inl (nI 0)), M)) = some (some (.inl (nI (bN R))), M) ∧ (R = true ↔ askP o wl wh b) := fun a ha n => by
    have := hb a ha
    rcases ho with rfl | rfl
    · refine ⟨true, by rw [if_pos nI_0]; rfl, ⟨fun _ => Or.inr ⟨rfl, a, ha, by omega⟩, fun _ => rfl⟩⟩
    · refine ⟨false, by rw [if_neg (show ¬ nI 1 = 0 by decide +kernel)]; rfl, ⟨fun z => (by cases z), fun z => ?_⟩⟩
      rcases z with ⟨_, z⟩ | ⟨z, _⟩
      · exact absurd (z a ha) n
      · omega
  intro m
  induction m with
  | zero =>
    intro a ha B hB hm d5 d6
    rw [E_X10_meets_5, if_pos (nI_le (by omega) (by omega))]
    simp only [if_pos t0, if_pos t1]
    rcases ho with rfl | rfl
    · rw [if_pos nI_0]
      cases B with
      | false =>
        rw [if_pos (bN0.mpr rfl)]
        refine ⟨true, rfl, ⟨fun _ => Or.inr ⟨rfl, ?_⟩, fun _ => rfl⟩⟩
        apply Classical.byContradiction
        intro nn
        have : false = true := hB.mpr fun x hx => by
          apply Classical.byContradiction
          intro n2
          have := hb x (by omega)
          exact nn ⟨x, by omega, by omega⟩
        cases this
      | true =>
        rw [if_neg (fun z => by have := bN0.mp z; simp at this)]
        refine ⟨false, rfl, ⟨fun z => (by cases z), fun z => ?_⟩⟩
        rcases z with ⟨z, _⟩ | ⟨_, x, hx, z⟩
        · omega
        · have := hB.mp rfl x (by omega)
          omega
    · rw [if_neg (show ¬ nI 1 = 0 by decide +kernel)]
      exact ⟨true, rfl, ⟨fun _ => Or.inl ⟨rfl, fun x hx => hm x (by omega)⟩, fun _ => rfl⟩⟩
  | succ m ih =>
    intro a ha B hB hm d5 d6
    have a3 : a < 3 := by omega
    obtain ⟨e1, e2⟩ := e a a3
    obtain ⟨b1, b2⟩ := hb a a3
    obtain ⟨v1, v2⟩ := wv a a3
    obtain ⟨u1, u2⟩ := hw a a3
    rw [E_X10_meets_5, if_neg (nI_ge a3 (by omega))]
    simp only [if_pos t0, if_pos t1, w_f h (show (25, 0, 26) ∈ q_crs by decide), w_f h (show (25, 1, 30) ∈ q_crs by decide), w_f h (show (25, 5, 37) ∈ q_crs by decide), w_f h (show (25, 6, 38) ∈ q_crs by decide), Option.bind_some, w_lo h a3, w_si h a3, w_a h (w61_l a3).1 hk, w_a h (w61_l a3).2 hk, e1, e2, w_a3 h (Or.inl rfl) a3, w_a3 h (Or.inr rfl) a3, v1, v2, nI_add, pk_sub (show 1 ≤ b.1 a + b.2.1 a by omega), nI_1]
    by_cases c1 : b.1 a + b.2.1 a - 1 < wl a
    · rw [if_pos (nI_lt c1 (by omega))]
      exact out a a3 (fun z => by omega)
    rw [if_neg (nI_nlt (by omega) (by omega))]
    by_cases c2 : b.1 a ≤ wh a
    rotate_left
    · rw [if_neg (nI_ge (by omega) (by omega))]
      exact out a a3 (fun z => c2 z.1)
    rw [if_pos (nI_le c2 (by omega))]
    have hm' : ∀ x, x < a + 1 → b.1 x ≤ wh x ∧ wl x < b.1 x + b.2.1 x := fun x hx => by
      by_cases q : x = a
      · subst q; omega
      · exact hm x (by omega)
    have no : ¬ (wl a ≤ b.1 a ∧ b.1 a + b.2.1 a ≤ wh a + 1) ∨ B = false → ∀ d5 d6, ∃ R : Bool, q_RL T_X10_meets (5, [some (.inr (.inr (some 25))), some (.inl (nI k)), some (.inl (nI o)), some (.inl (nI 0)), some (.inl (nI (a + 1))), d5, d6], [], M) = some (some (.inl (nI (bN R))), M) ∧ (R = true ↔ askP o wl wh b) := fun z d5 d6 => ih (a + 1) (by omega) false ⟨fun q => (by cases q), fun q => by
      rcases z with z | z
      · exact absurd (q a (by omega)) z
      · rw [← z]; exact hB.mpr fun x hx => q x (by omega)⟩ hm' d5 d6
    cases B with
    | false =>
      rw [if_pos (bN0.mpr rfl)]
      exact no (Or.inr rfl) _ _
    | true =>
      rw [if_neg (fun z => by have := bN0.mp z; simp at this)]
      by_cases c3 : b.1 a < wl a
      · rw [if_pos (nI_lt c3 (by omega))]
        exact no (Or.inl (fun z => by omega)) _ _
      rw [if_neg (nI_nlt (by omega) (by omega))]
      by_cases c4 : wh a < b.1 a + b.2.1 a - 1
      · rw [if_pos (nI_lt c4 (by omega))]
        exact no (Or.inl (fun z => by omega)) _ _
      rw [if_neg (nI_nlt (by omega) (by omega))]
      exact ih (a + 1) (by omega) true ⟨fun _ x hx => by
        by_cases q : x = a
        · subst q; omega
        · exact hB.mp rfl x (by omega), fun _ => rfl⟩ hm' _ _
theorem K_meets {M : q_M} {c K d : Nat} {L : Nat → Nat} {i : Nat} (w : WK M c K d L i) (ok : okC K d L) {k p o : Nat} (wd : WD M (cmO K d L) k p) (hk : k ≤ lsm L) (hp : p < cB K ^ k) (ho : o = 0 ∨ o = 1) {wl wh : Nat → Nat} (wv : WV M wl wh) (hw : ∀ a, a < 3 → wl a ≤ wh a ∧ wh a < 2 ^ 20) : ∃ R : Bool, q_CL 79 [.inr (.inr (some 25)), .inl (nI k), .inl (nI o)] M = some (some (.inl (nI (bN R))), M) ∧ (R = true ↔ askP o wl wh (bx (cmO K d L) k p)) := by
  have h60 := okC_60 ok
  have g := gd_co ok
  have hp' : p < (cmO K d L).1 ^ k := by rw [cmO_B]; exact hp
  rw [C_X10_meets]
  have k := K_me5 w.1 (show k < 61 by omega) ho (b := bx (cmO K d L) k p) wd.1 (fun a ha => ⟨side_pos g hk hp' a ha, by have := bx_room g hk hp' ha; rw [cmO_R] at this; have := (room_c ok ha).2; omega⟩) wv (fun a ha => ⟨by have := hw a ha; omega, (hw a ha).2⟩) 3 0 (by omega) true ⟨fun _ x hx => by omega, fun _ => rfl⟩ (fun x hx => by omega) none none
  exact k
/-! the numbers of a box -/
/-- in the window (1), or out of it (0) -/
def Pr (m : Cm) (D o : Nat) (wl wh : Nat → Nat) (n : Nat) : Prop := (o = 1 ∧ inw wl wh (plc m D n)) ∨ (o = 0 ∧ ¬ inw wl wh (plc m D n))
theorem ask_c {m : Cm} {D : Nat} (g : Gd m D) {k p o : Nat} (hk : k ≤ D) (hp : p < m.1 ^ k) (ho : o = 0 ∨ o = 1) {wl wh : Nat → Nat} (hw : ∀ a, a < 3 → wl a ≤ wh a) : askP o wl wh (bx m k p) ↔ ∃ n, n < m.1 ^ D ∧ n / m.1 ^ (D - k) = p ∧ Pr m D o wl wh n := by
  unfold askP Pr
  rcases ho with rfl | rfl
  · constructor
    · rintro (⟨z, _⟩ | ⟨_, z⟩)
      · omega
      · obtain ⟨n, n1, n2, n3⟩ := (nin_iff g hk hp).mp z
        exact ⟨n, n1, n2, Or.inr ⟨rfl, n3⟩⟩
    · rintro ⟨n, n1, n2, ⟨z, _⟩ | ⟨_, z⟩⟩
      · omega
      · exact Or.inr ⟨rfl, (nin_iff g hk hp).mpr ⟨n, n1, n2, z⟩⟩
  · constructor
    · rintro (⟨_, z⟩ | ⟨z, _⟩)
      · obtain ⟨n, n1, n2, n3⟩ := (mtw_iff g hk hp hw).mp z
        exact ⟨n, n1, n2, Or.inl ⟨rfl, n3⟩⟩
      · omega
    · rintro ⟨n, n1, n2, ⟨_, z⟩ | ⟨z, _⟩⟩
      · exact Or.inl ⟨rfl, (mtw_iff g hk hp hw).mpr ⟨n, n1, n2, z⟩⟩
      · omega
theorem nd_lt {B n D k : Nat} (hB : 2 ≤ B) (hn : n < B ^ D) (hk : k ≤ D) : n / B ^ (D - k) < B ^ k := by
  rw [Nat.div_lt_iff_lt_mul (Nat.pow_pos (by omega)), ← Nat.pow_add, show k + (D - k) = D by omega]
  exact hn
theorem nd_s {B n D k : Nat} (hB : 2 ≤ B) (hk : k < D) : n / B ^ (D - (k + 1)) = n / B ^ (D - k) * B + n / B ^ (D - 1 - k) % B := by
  have e : D - k = D - (k + 1) + 1 := by omega
  rw [e, Nat.pow_succ, ← Nat.div_div_eq_div_mul, show D - 1 - k = D - (k + 1) by omega, Nat.mul_comm]
  exact (Nat.div_add_mod _ _).symm
/-- the path to a number, down to depth k -/
def PT (M : q_M) (m : Cm) (D n k : Nat) : Prop := (∀ j, j ≤ k → WD M m j (n / m.1 ^ (D - j))) ∧ ∀ j, j < k → gI M 36 j = nI (n / m.1 ^ (D - 1 - j) % m.1)
theorem PT.ws {M M1 : q_M} {m : Cm} {D n k j : Nat} (p : PT M m D n k) (f : WS j M M1) (h : k ≤ j) : PT M1 m D n k := ⟨fun x hx => (p.1 x hx).ws f (by omega), fun x hx => (f.2.2.2.2.2.1 x (by omega)).trans (p.2 x hx)⟩
/-- what walking may change -/
def WF (M M1 : q_M) : Prop := FC wsc M M1 ∧ gR M1 25 7 = gR M 25 7 ∧ gI M1 25 8 = gI M 25 8 ∧ (∀ c, c = 37 ∨ c = 38 → ∀ j, gI M1 c j = gI M c j) ∧ (∀ c, c ≠ 36 → gI M1 c 0 = gI M c 0) ∧ gL M1 35 0 = gL M 35 0
theorem WF.rf (M : q_M) : WF M M := ⟨FC.rf _ M, rfl, rfl, fun _ _ _ => rfl, fun _ _ => rfl, rfl⟩
theorem WF.tr {M M1 M2 : q_M} (a : WF M M1) (b : WF M1 M2) : WF M M2 := ⟨a.1.tr b.1, b.2.1.trans a.2.1, b.2.2.1.trans a.2.2.1, fun c hc j => (b.2.2.2.1 c hc j).trans (a.2.2.2.1 c hc j), fun c hc => (b.2.2.2.2.1 c hc).trans (a.2.2.2.2.1 c hc), b.2.2.2.2.2.trans a.2.2.2.2.2⟩
theorem WF.ws {M M1 : q_M} {k : Nat} (f : WS k M M1) : WF M M1 := ⟨f.1, f.2.1, f.2.2.1, f.2.2.2.2.2.2, fun c hc => f.2.2.2.1 c 0 (by omega) hc, f.2.2.2.2.1 0 (by omega)⟩
theorem WF.wk {M M1 : q_M} (f : WF M M1) {c K d : Nat} {L : Nat → Nat} {i : Nat} (w : WK M c K d L i) : WK M1 c K d L i := ⟨f.1.sh w.1, w.2.1.fc f.1 wsc_ok, f.2.1.trans w.2.2.1, f.2.2.1.trans w.2.2.2⟩
theorem WF.wv {M M1 : q_M} (f : WF M M1) {lo hi : Nat → Nat} (w : WV M lo hi) : WV M1 lo hi := fun a ha => ⟨(f.2.2.2.1 37 (Or.inl rfl) a).trans (w a ha).1, (f.2.2.2.1 38 (Or.inr rfl) a).trans (w a ha).2⟩
theorem WF.w0 {M M1 : q_M} (f : WF M M1) {m : Cm} (w : WD M m 0 0) : WD M1 m 0 0 := ⟨fun a ha => ⟨(f.2.2.2.2.1 _ (by omega)).trans (w.1 a ha).1, (f.2.2.2.2.1 _ (by omega)).trans (w.1 a ha).2⟩, (f.2.2.2.2.1 34 (by omega)).trans w.2.1, f.2.2.2.2.2.trans w.2.2⟩
