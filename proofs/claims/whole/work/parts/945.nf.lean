/-! ===== THE REFERENCE: pairs ===== -/
/-- how far two points are from each other -/
def dfP (v : Nat → Nat) (o wy a b : Nat) : Nat := dsP v o (fun x => v (o + 4 + 6 * a + (1 + x))) wy b
/-- the pair a, b comes ahead of c, d -/
def lsP (v : Nat → Nat) (o wy a b c d : Nat) : Prop := dfP v o wy a b < dfP v o wy c d ∨ (dfP v o wy a b = dfP v o wy c d ∧ (v (o + 4 + 6 * a) < v (o + 4 + 6 * c) ∨ (v (o + 4 + 6 * a) = v (o + 4 + 6 * c) ∧ v (o + 4 + 6 * b) < v (o + 4 + 6 * d))))
/-- the best of the pairs in S -/
def PBs (v : Nat → Nat) (o wy : Nat) (S : Nat → Nat → Prop) (r : Option (Nat × Nat)) : Prop := match r with
  | none => ∀ a b, S a b → ¬ v (o + 4 + 6 * a) < v (o + 4 + 6 * b)
  | some (a, b) => S a b ∧ v (o + 4 + 6 * a) < v (o + 4 + 6 * b) ∧ ∀ c d, S c d → v (o + 4 + 6 * c) < v (o + 4 + 6 * d) → ¬ (c = a ∧ d = b) → lsP v o wy a b c d
def pr1 (r : Option (Nat × Nat)) : Int32 := match r with
  | none => -1
  | some (a, _) => nI a
def pr2 (r : Option (Nat × Nat)) : Int32 := match r with
  | none => -1
  | some (_, b) => nI b
def prL (v : Nat → Nat) (o wy : Nat) (r : Option (Nat × Nat)) : Int64 := match r with
  | none => lN 0
  | some (a, b) => lN (dfP v o wy a b)
/-- the pairs that have been looked at -/
def spP (m i j a b : Nat) : Prop := b < m ∧ (a < i ∨ (a = i ∧ b < j))
theorem PBs_no {v : Nat → Nat} {o wy m i j : Nat} {r : Option (Nat × Nat)} (h : PBs v o wy (spP m i j) r) (hn : ¬ v (o + 4 + 6 * i) < v (o + 4 + 6 * j)) : PBs v o wy (spP m i (j + 1)) r := by
  have sp : ∀ a b, spP m i (j + 1) a b → v (o + 4 + 6 * a) < v (o + 4 + 6 * b) → spP m i j a b := fun a b s l => by
    refine ⟨s.1, ?_⟩
    by_cases q : a = i ∧ b = j
    · obtain ⟨rfl, rfl⟩ := q
      exact absurd l hn
    · have := s.2; omega
  cases r with
  | none => exact fun a b s l => h a b (sp a b s l) l
  | some ab =>
    obtain ⟨a, b⟩ := ab
    obtain ⟨h1, h2, h3⟩ := h
    exact ⟨⟨h1.1, by have := h1.2; omega⟩, h2, fun c d s l ne => h3 c d (sp c d s l) l ne⟩
theorem PBs_ge {v : Nat → Nat} {o wy m i j : Nat} {a b : Nat} (h : PBs v o wy (spP m i j) (some (a, b))) (hl : lsP v o wy a b i j) : PBs v o wy (spP m i (j + 1)) (some (a, b)) := by
  obtain ⟨h1, h2, h3⟩ := h
  refine ⟨⟨h1.1, by have := h1.2; omega⟩, h2, fun c d s l ne => ?_⟩
  by_cases q : c = i ∧ d = j
  · obtain ⟨rfl, rfl⟩ := q
    exact hl
  · exact h3 c d ⟨s.1, by have := s.2; omega⟩ l ne
theorem PBs_lt {v : Nat → Nat} {o wy m i j : Nat} {a b : Nat} (hj : j < m) (hn : v (o + 4 + 6 * i) < v (o + 4 + 6 * j)) (h : PBs v o wy (spP m i j) (some (a, b))) (hl : lsP v o wy i j a b) : PBs v o wy (spP m i (j + 1)) (some (i, j)) := by
  obtain ⟨h1, h2, h3⟩ := h
  refine ⟨⟨hj, by omega⟩, hn, fun c d s l ne => ?_⟩
  by_cases q : c = a ∧ d = b
  · obtain ⟨rfl, rfl⟩ := q
    exact hl
  · have := h3 c d ⟨s.1, by have := s.2; omega⟩ l q
    unfold lsP at *
    omega
theorem PBs_n0 {v : Nat → Nat} {o wy m i j : Nat} (hj : j < m) (hn : v (o + 4 + 6 * i) < v (o + 4 + 6 * j)) (h : PBs v o wy (spP m i j) none) : PBs v o wy (spP m i (j + 1)) (some (i, j)) := by
  refine ⟨⟨hj, by omega⟩, hn, fun c d s l ne => ?_⟩
  exact absurd l (h c d ⟨s.1, by have := s.2; omega⟩)
theorem R_pa97 {v : Nat → Nat} {i o : Nat} (s : SW v i o) (hc : okI v i) (ho : 1100 ≤ o ∧ o + 2110 ≤ 60180) {wy y : Nat} (hw : wy < 3) (hy : y < v (o + 2)) {x1 : Int32} {u : Nat → Nat} (hu : ∀ x, x < 49 ∨ 1100 ≤ x → u x = v x) {M : q_M} (h : SH M) (r : RI M u) (eo : gI M 49 13 = nI o) (hh : HI M (fun x => v (o + 4 + 6 * y + (1 + x)))) : ∀ m j, j + m = v (o + 2) → ∀ rr, PBs v o wy (spP (v (o + 2)) y j) rr → ∀ d6 d9 d10 d11, ∃ rr' f6 f9 f10 f11, PBs v o wy (spP (v (o + 2)) y (v (o + 2))) rr' ∧ q_RL T_X12_pairs (97, [some (.inr (.inr (some 49))), some (.inl x1), some (.inl (nI wy)), some (.inl (pr1 rr)), some (.inl (pr2 rr)), some (.inr (.inl (prL v o wy rr))), d6, some (.inl (nI y)), some (.inl (nI j)), d9, d10, d11], [], M) = q_RL T_X12_pairs (97, [some (.inr (.inr (some 49))), some (.inl x1), some (.inl (nI wy)), some (.inl (pr1 rr')), some (.inl (pr2 rr')), some (.inr (.inl (prL v o wy rr'))), f6, some (.inl (nI y)), some (.inl (nI (v (o + 2)))), f9, f10, f11], [], M) := by
  have s1 := s.1
  have s5 := s.2.2.2.2.1
  have s6 := s.2.2.2.2.2
  have nd : ∀ p q, p < v (o + 2) → q < v (o + 2) → v (o + 4 + 6 * p) = v (o + 4 + 6 * q) → p = q := fun p q hp hq e => by
    rcases Nat.lt_trichotomy p q with z | z | z
    · exact absurd e (s6 p q z hq).1
    · exact z
    · exact absurd e.symm (s6 q p z hp).1
  intro m
  induction m with
  | zero =>
    intro j hj rr f d6 d9 d10 d11
    rw [Nat.add_zero] at hj
    rw [hj] at f ⊢
    exact ⟨rr, d6, d9, d10, d11, f, rfl⟩
  | succ m ih =>
    intro j hj rr f d6 d9 d10 d11
    have hj2 : j < v (o + 2) := by omega
    have e2 := (R_fld h r ho eo).1
    rw [hu _ (by omega)] at e2
    have p0 := R_point h r ho eo (p := y) (k := 0) (by omega) (by omega)
    have p1 := R_point h r ho eo (p := j) (k := 0) (by omega) (by omega)
    rw [hu _ (by omega), Nat.add_zero] at p0 p1
    have n0 := (s5 y hy).1
    have n1 := (s5 j hj2).1
    have far := R_far h r ho eo hh hw (show j ≤ 300 by omega) (fun a ha => by rw [hu _ (by omega)]; exact s.pt hc hj2 ha)
    rw [(ds_hi ho.1 hu _ wy).1] at far
    have far' : q_CL 206 [.inr (.inr (some 49)), .inl (nI j), .inl (nI wy)] M = some (some (.inr (.inl (lN (dfP v o wy y j)))), M) := far
    have dj : dfP v o wy y j < 2 ^ 42 := dsP_b (fun a ha => s.pt hc hj2 ha) (fun a ha => s.pt hc hy ha)
    rw [E_X12_pairs_97]
    simp only [m_sel h, Option.bind_some, e2, z_rI]
    rw [if_neg (nI_ge hj2 (by omega))]
    simp only [p0, p1, z_rL, Option.bind_some, far', lg_cmp_lt, pk_lLT (show v (o + 4 + 6 * y) < 2 ^ 63 by omega) (show v (o + 4 + 6 * j) < 2 ^ 63 by omega), nI_1, if_neg (show ¬ nI 1 = 0 by decide +kernel), if_pos nI_0, m_sel h]
    by_cases c0 : v (o + 4 + 6 * y) < v (o + 4 + 6 * j)
    rotate_left
    · rw [if_neg c0]
      exact ih (j + 1) (by omega) rr (PBs_no f c0) _ _ _ _
    rw [if_pos c0]
    cases rr with
    | none =>
      rw [if_pos (show pr1 none = -1 from rfl)]
      exact ih (j + 1) (by omega) (some (y, j)) (PBs_n0 hj2 c0 f) _ _ _ _
    | some ab =>
      obtain ⟨a, b⟩ := ab
      have hb := f.1.1
      have ha : a < v (o + 2) := by have := f.1.2; omega
      have q0 := R_point h r ho eo (p := a) (k := 0) (by omega) (by omega)
      have q1 := R_point h r ho eo (p := b) (k := 0) (by omega) (by omega)
      rw [hu _ (by omega), Nat.add_zero] at q0 q1
      have m0 := (s5 a ha).1
      have m1 := (s5 b hb).1
      have dab : dfP v o wy a b < 2 ^ 42 := dsP_b (fun x hx => s.pt hc hb hx) (fun x hx => s.pt hc ha hx)
      rw [if_neg (show ¬ pr1 (some (a, b)) = -1 from nI_nm1 (by omega))]
      simp only [show pr1 (some (a, b)) = nI a from rfl, show pr2 (some (a, b)) = nI b from rfl, show prL v o wy (some (a, b)) = lN (dfP v o wy a b) from rfl, m_sel h, p0, p1, q0, q1, z_rL, Option.bind_some, lg_cmp_eq, lg_cmp_ge, pk_lLT (show dfP v o wy y j < 2 ^ 63 by omega) (show dfP v o wy a b < 2 ^ 63 by omega), pk_lEQ (show dfP v o wy y j < 2 ^ 63 by omega) (show dfP v o wy a b < 2 ^ 63 by omega), pk_lLT (show v (o + 4 + 6 * y) < 2 ^ 63 by omega) (show v (o + 4 + 6 * a) < 2 ^ 63 by omega), pk_lLE (show v (o + 4 + 6 * b) < 2 ^ 63 by omega) (show v (o + 4 + 6 * j) < 2 ^ 63 by omega), nI_eq (show y < 2 ^ 31 by omega) (show a < 2 ^ 31 by omega)]
      by_cases c1 : dfP v o wy y j < dfP v o wy a b
      · rw [if_pos c1]
        exact ih (j + 1) (by omega) (some (y, j)) (PBs_lt hj2 c0 f (Or.inl c1)) _ _ _ _
      rw [if_neg c1]
      by_cases c2 : dfP v o wy y j = dfP v o wy a b
      rotate_left
      · rw [if_neg c2]
        exact ih (j + 1) (by omega) (some (a, b)) (PBs_ge f (Or.inl (by omega))) _ _ _ _
      rw [if_pos c2]
      by_cases c3 : v (o + 4 + 6 * y) < v (o + 4 + 6 * a)
      · rw [if_pos c3]
        exact ih (j + 1) (by omega) (some (y, j)) (PBs_lt hj2 c0 f (Or.inr ⟨c2, Or.inl c3⟩)) _ _ _ _
      rw [if_neg c3]
      by_cases c4 : y = a
      · rw [if_pos c4]
        by_cases c5 : v (o + 4 + 6 * b) ≤ v (o + 4 + 6 * j)
        · rw [if_pos c5]
          have ne : b ≠ j := fun z => by have := f.1.2; omega
          have : v (o + 4 + 6 * b) ≠ v (o + 4 + 6 * j) := fun z => ne (nd b j hb hj2 z)
          exact ih (j + 1) (by omega) (some (a, b)) (PBs_ge f (Or.inr ⟨by omega, Or.inr ⟨by rw [c4], by omega⟩⟩)) _ _ _ _
        · rw [if_neg c5]
          exact ih (j + 1) (by omega) (some (y, j)) (PBs_lt hj2 c0 f (Or.inr ⟨c2, Or.inr ⟨by rw [c4], by omega⟩⟩)) _ _ _ _
      · rw [if_neg c4]
        have : v (o + 4 + 6 * y) ≠ v (o + 4 + 6 * a) := fun z => c4 (nd y a hy ha z)
        exact ih (j + 1) (by omega) (some (a, b)) (PBs_ge f (Or.inr ⟨by omega, Or.inl (by omega)⟩)) _ _ _ _
/-- all pairs -/
def spA (m a b : Nat) : Prop := a < m ∧ b < m
/-- the two that are found -/
def paV (v : Nat → Nat) (o wy P a b : Nat) : Nat → Nat := fdN o (fun r => if r = 0 then a else b) (fun _ => dfP v o wy a b) (fd0 v P) 2
theorem R_pa57 {v : Nat → Nat} {i o : Nat} (s : SW v i o) (hc : okI v i) (ho : 1100 ≤ o ∧ o + 2110 ≤ 60180) {wy : Nat} (hw : wy < 3) (h2 : 2 ≤ v (o + 2)) {x1 : Int32} {w : Nat → Int32} {P : Nat} : ∀ m y, y + m = v (o + 2) → ∀ {M : q_M}, SH M → RI M (fd0 v P) → WI M w → gI M 49 13 = nI o → ∀ rr, PBs v o wy (spP (v (o + 2)) y 0) rr → ∀ d6 d8 d9 d10 d11, ∃ a b M1, PBs v o wy (spA (v (o + 2))) (some (a, b)) ∧ q_RL T_X12_pairs (57, [some (.inr (.inr (some 49))), some (.inl x1), some (.inl (nI wy)), some (.inl (pr1 rr)), some (.inl (pr2 rr)), some (.inr (.inl (prL v o wy rr))), d6, some (.inl (nI y)), d8, d9, d10, d11], [], M) = some (some (.inl (nI 2)), M1) ∧ F2 f50 M M1 ∧ RI M1 (paV v o wy P a b) ∧ WI M1 w := by
  have s1 := s.1
  have s5 := s.2.2.2.2.1
  have hu : ∀ x, x < 49 ∨ 1100 ≤ x → fd0 v P x = v x := fun x hx => fd0_x (by omega)
  intro m
  induction m with
  | zero =>
    intro y hy M h r wi eo rr f d6 d8 d9 d10 d11
    rw [Nat.add_zero] at hy
    cases rr with
    | none =>
      exfalso
      have n1 := f 0 1 ⟨by omega, Or.inl (by omega)⟩
      have n2 := f 1 0 ⟨by omega, Or.inl (by omega)⟩
      have := (s.2.2.2.2.2 0 1 (by omega) (by omega)).1
      omega
    | some ab =>
      obtain ⟨a, b⟩ := ab
      obtain ⟨g1, g2, g3⟩ := f
      have hb := g1.1
      have ha : a < v (o + 2) := by have := g1.2; omega
      have dab : dfP v o wy a b < 2 ^ 42 := dsP_b (fun x hx => s.pt hc hb hx) (fun x hx => s.pt hc ha hx)
      obtain ⟨z7, z8, z9⟩ := fd0_7 v P
      have wa := (s5 a ha).2.1
      have wb := (s5 b hb).2.1
      obtain ⟨M1, a1, a2, a3, a4⟩ := R_finds (v := fd0 v P) (o := o) (p := a) (d := dfP v o wy a b) ho (by omega) (by omega) (by omega) (by rw [z8, hu _ (by omega)]; omega) h r wi eo
      have h1 := a2.sh h
      have e1 : gI M1 49 13 = nI o := (a2.2.2.2.1 49 13 (by unfold scr; omega)).trans eo
      obtain ⟨t7, t8, _⟩ := fdS_7 (fd0 v P) o a (dfP v o wy a b)
      have hx4 : fdS (fd0 v P) o a (dfP v o wy a b) (o + 4 + 6 * b + 4) = v (o + 4 + 6 * b + 4) := by rw [fdS_x (by omega) (by rw [z7]; omega), hu _ (by omega)]
      obtain ⟨M2, b1, b2, b3, b4⟩ := R_finds (v := fdS (fd0 v P) o a (dfP v o wy a b)) (o := o) (p := b) (d := dfP v o wy a b) ho (by omega) (by omega) (by rw [t7, z7]; omega) (by rw [t8, z8, hu _ (by omega), hx4]; omega) h1 a3 a4 e1
      refine ⟨a, b, M2, ⟨⟨ha, hb⟩, g2, fun c d sp l ne => g3 c d ⟨sp.2, Or.inl (by have := sp.1; omega)⟩ l ne⟩, ?_, F2.fl (a2.tr b2), b3, b4⟩
      have e2 := (R_fld h r ho eo).1
      rw [hu _ (by omega)] at e2
      rw [E_X12_pairs_57]
      simp only [m_sel h, Option.bind_some, e2, z_rI]
      rw [if_pos (nI_le (by omega) (by omega))]
      simp only [show pr1 (some (a, b)) = nI a from rfl, show pr2 (some (a, b)) = nI b from rfl, show prL v o wy (some (a, b)) = lN (dfP v o wy a b) from rfl, a1, z_rV, Option.bind_some, m_sel h1, b1]
  | succ m ih =>
    intro y hy M h r wi eo rr f d6 d8 d9 d10 d11
    have hy2 : y < v (o + 2) := by omega
    have e2 := (R_fld h r ho eo).1
    rw [hu _ (by omega)] at e2
    have p1 := R_point h r ho eo (p := y) (k := 1) (by omega) (by omega)
    have p2 := R_point h r ho eo (p := y) (k := 2) (by omega) (by omega)
    have p3 := R_point h r ho eo (p := y) (k := 3) (by omega) (by omega)
    rw [hu _ (by omega)] at p1 p2 p3
    obtain ⟨B, b1, b2, b3⟩ := R_stands h (g := fun x => v (o + 4 + 6 * y + (1 + x))) (fun x hx => s.pt hc hy2 hx)
    have hB := b2.sh h
    have rB := b2.ri r
    have eB : gI B 49 13 = nI o := (b2.2.2.2 49 13 (by omega)).trans eo
    obtain ⟨rr', f6, f9, f10, f11, c1, c2⟩ := R_pa97 s hc ho hw hy2 (x1 := x1) hu hB rB eB b3 (v (o + 2)) 0 (by omega) rr f d6 d9 d10 d11
    obtain ⟨a, b, M1, g1, g2, g3, g4, g5⟩ := ih (y + 1) (by omega) hB rB (b2.wi wi) eB rr' (by
      have sp : ∀ c d, spP (v (o + 2)) (y + 1) 0 c d → spP (v (o + 2)) y (v (o + 2)) c d := fun c d z => ⟨z.1, by have := z.1; have := z.2; omega⟩
      have sq : ∀ c d, spP (v (o + 2)) y (v (o + 2)) c d → spP (v (o + 2)) (y + 1) 0 c d := fun c d z => ⟨z.1, by have := z.1; have := z.2; omega⟩
      cases rr' with
      | none => exact fun c d z l => c1 c d (sp c d z) l
      | some ab =>
        obtain ⟨a, b⟩ := ab
        obtain ⟨k1, k2, k3⟩ := c1
        exact ⟨sq a b k1, k2, fun c d z l ne => k3 c d (sp c d z) l ne⟩) (q_kill f6) (some (.inl (nI (v (o + 2))))) f9 f10 f11
    refine ⟨a, b, M1, g1, ?_, (F2.fr b2 fun a k z => Or.inr (Or.inr (Or.inl z))).tr g3, g4, g5⟩
    have b1' : q_CL 205 [.inr (.inr (some 49)), .inl (nI (v (o + 4 + 6 * y + 1))), .inl (nI (v (o + 4 + 6 * y + 2))), .inl (nI (v (o + 4 + 6 * y + 3)))] M = some (none, B) := b1
    have e2B := (R_fld hB rB ho eB).1
    rw [hu _ (by omega)] at e2B
    rw [E_X12_pairs_57]
    simp only [m_sel h, Option.bind_some, e2, z_rI]
    rw [if_neg (nI_ge hy2 (by omega))]
    simp only [m_sel h, p1, p2, p3, z_rL, Option.bind_some, lN_i, b1', z_rV]
    rw [c2, E_X12_pairs_97]
    simp only [m_sel hB, Option.bind_some, e2B, z_rI]
    rw [if_pos (nI_le (Nat.le_refl _) (by omega)), nI_1]
    exact g2
theorem R_pairs {v : Nat → Nat} (s : SV v) {w : Nat → Int32} {M : q_M} (h : SH M) (r : RI M v) (wi : WI M w) (x1 x2 : Int32) : (¬ (∃ j wy, j < 4 ∧ x1 = nI j ∧ v (oS j) = 1 ∧ x2 = nI wy ∧ wy < 3) ∧ ∃ M1, q_CL 216 [.inr (.inr (some 49)), .inl x1, .inl x2] M = some (some (.inl (-1)), M1) ∧ FO (fun _ => False) M M1) ∨ ∃ j wy M1, j < 4 ∧ x1 = nI j ∧ v (oS j) = 1 ∧ x2 = nI wy ∧ wy < 3 ∧ F2 f50 M M1 ∧ WI M1 w ∧ ((v (oS j + 2) < 2 ∧ q_CL 216 [.inr (.inr (some 49)), .inl x1, .inl x2] M = some (some (.inl (nI 0)), M1) ∧ RI M1 (fd0 v (v (oS j + 3)))) ∨ (2 ≤ v (oS j + 2) ∧ ∃ a b, PBs v (oS j) wy (spA (v (oS j + 2))) (some (a, b)) ∧ q_CL 216 [.inr (.inr (some 49)), .inl x1, .inl x2] M = some (some (.inl (nI 2)), M1) ∧ RI M1 (paV v (oS j) wy (v (oS j + 3)) a b))) := by
  rw [C_X12_pairs]
  simp only [m_sel h, Option.bind_some]
  rcases R_opens h r x1 with ⟨hx, M1, e, f⟩ | ⟨j, hj, rfl, eo, e⟩
  · left
    refine ⟨fun ⟨j, wy, a, b, c, _⟩ => hx ⟨j, a, b, c⟩, M1, ?_, f⟩
    rw [e]; rfl
  have ob := oS_b hj
  have ho : 1100 ≤ oS j ∧ oS j + 2110 ≤ 60180 := by omega
  rw [e]
  simp only [z_rI, Option.bind_some]
  rw [if_neg (show ¬ nI 1 = 0 by decide +kernel)]
  have hA : SH (stI M 49 13 (nI (oS j))) := h
  have rA : RI (stI M 49 13 (nI (oS j))) v := r
  have wA : WI (stI M 49 13 (nI (oS j))) w := wi
  have fA : ∀ A, FO A M (stI M 49 13 (nI (oS j))) := fun A => (FO.rf A M).sO
  have eA : gI (stI M 49 13 (nI (oS j))) 49 13 = nI (oS j) := gI_self
  generalize stI M 49 13 (nI (oS j)) = A at *
  have sw := s.sw hj eo
  obtain ⟨i8, hc⟩ := s.i8 hj eo
  have s1 := sw.1
  have s2 := sw.2.1
  rcases pk_ix x2 (show 3 < 2 ^ 31 by omega) with z | z | ⟨wy, hwy, rfl⟩
  · left
    refine ⟨?_, A, if_pos z, fA _⟩
    rintro ⟨_, wy, _, _, _, rfl, b⟩
    exact nI_pos (by omega) z
  · left
    have b1 : (nI 3).toInt ≤ x2.toInt := Int32.le_iff_toInt_le.mp z
    rw [nI_toInt (by omega)] at b1
    refine ⟨?_, A, ?_, fA _⟩
    · rintro ⟨_, wy, _, _, _, rfl, b⟩
      exact nI_ge b (by omega) z
    · rw [if_neg (fun y => by
        have := Int32.lt_iff_toInt_lt.mp y
        rw [show (0 : Int32) = nI 0 from nI_0.symm, nI_toInt (by omega)] at this
        omega), if_neg (fun y => by
        have := Int32.le_iff_toInt_le.mp y
        rw [nI_toInt (by omega)] at this
        omega)]
  right
  rw [if_neg (nI_pos (by omega)), if_pos (nI_le (by omega) (by omega))]
  obtain ⟨B, b1, b2, b3, b4⟩ := R_begins hA rA wA
  have hB := b2.sh hA
  have eB : gI B 49 13 = nI (oS j) := (b2.2.2.2.1 49 13 (by unfold scr; omega)).trans eA
  have eP := (R_fld hB b3 ho eB).2.1
  rw [fd0_x (by omega)] at eP
  have hC : SH (stL B 50 459 (lN (v (oS j + 3)))) := hB
  have rC := RI_up (k := 459) b3 (show v (oS j + 3) < 2 ^ 62 by omega)
  rw [fd0_s] at rC
  have wC : WI (stL B 50 459 (lN (v (oS j + 3)))) w := WI_up b4 (by omega)
  have eC : gI (stL B 50 459 (lN (v (oS j + 3)))) 49 13 = nI (oS j) := eB
  have fC : F2 f50 M (stL B 50 459 (lN (v (oS j + 3)))) := ((F2.fo (fA f50)).tr (F2.fl b2)).st (show f50 50 from rfl)
  have e2 := (R_fld hC rC ho eC).1
  rw [fd0_x (by omega)] at e2
  simp only [m_sel hA, Option.bind_some, b1, z_rV, m_s hB, m_sel hB, eP, z_rI, nI_l (show v (oS j + 3) < 2 ^ 31 by omega), m_bL hB (show 459 < 60190 by omega), m_sel hC, e2]
  by_cases m2 : 2 ≤ v (oS j + 2)
  · rw [if_pos (nI_le m2 (by omega))]
    obtain ⟨a, b, M1, g1, g2, g3, g4, g5⟩ := R_pa57 sw hc ho hwy m2 (x1 := nI j) (P := v (oS j + 3)) (v (oS j + 2)) 0 (by omega) hC rC wC eC none (fun a b z => by have := z.2; omega) none none none none none
    exact ⟨j, wy, M1, hj, rfl, eo, rfl, hwy, fC.tr g3, g5, Or.inr ⟨m2, a, b, g1, g2, g4⟩⟩
  · rw [if_neg (nI_ge (by omega) (by omega))]
    exact ⟨j, wy, _, hj, rfl, eo, rfl, hwy, fC, wC, Or.inl ⟨by omega, rfl, rC⟩⟩
