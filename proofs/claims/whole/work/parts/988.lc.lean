/-! ===== THE CLASS: finds ===== -/
def fdc (f wh fa a : Nat) : Prop := a = f ∨ a = wh ∨ a = fa
/-- the shape of finds -/
def FS (M : q_M) (f wh fa Z : Nat) : Prop := M.1 f = 1 ∧ gR M f 0 = some wh ∧ gR M f 1 = some fa ∧ M.1 wh = 18 ∧ M.2.1 wh = Z ∧ M.1 fa = 15 ∧ M.2.1 fa = Z ∧ (∀ k, q_isc wh k = false) ∧ (f < 63 ∧ wh < 63 ∧ fa < 63) ∧ Z ≤ 300
theorem FS.fc {f wh fa Z : Nat} {M M1 : q_M} {P : Nat → Prop} (s : FS M f wh fa Z) (h : FC P M M1) (c0 : gR M1 f 0 = gR M f 0) (c1 : gR M1 f 1 = gR M f 1) : FS M1 f wh fa Z := by
  obtain ⟨s1, s2, s3, s4, s5, s6, s7, s8, s9, s10⟩ := s
  exact ⟨by rw [h.1]; exact s1, c0.trans s2, c1.trans s3, by rw [h.1]; exact s4, by rw [h.2.1]; exact s5, by rw [h.1]; exact s6, by rw [h.2.1]; exact s7, s8, s9, s10⟩
theorem FS_now {M : q_M} (h : SH M) : FS M 9 10 11 300 := ⟨h.1 9 (by omega), h.cr (9, 0, 10) (by decide), h.cr (9, 1, 11) (by decide), h.1 10 (by omega), h.2.1 10 (by omega) (by omega), h.1 11 (by omega), h.2.1 11 (by omega) (by omega), fun k => by
  unfold q_isc
  rw [List.any_eq_false]
  intro e he z
  rw [Bool.and_eq_true] at z
  have := Nat.eq_of_beq_eq_true z.1
  have : ∀ e ∈ q_crs, e.1 ≠ 10 := by decide
  exact this e he (by assumption), by omega, by omega⟩
theorem FS_spare {M : q_M} (h : SH M) : FS M 45 46 47 20 := ⟨h.1 45 (by omega), h.cr (45, 0, 46) (by decide), h.cr (45, 1, 47) (by decide), h.1 46 (by omega), h.2.1 46 (by omega) (by omega), h.1 47 (by omega), h.2.1 47 (by omega) (by omega), fun k => by
  unfold q_isc
  rw [List.any_eq_false]
  intro e he z
  rw [Bool.and_eq_true] at z
  have := Nat.eq_of_beq_eq_true z.1
  have : ∀ e ∈ q_crs, e.1 ≠ 46 := by decide
  exact this e he (by assumption), by omega, by omega⟩
theorem FS.nd {M : q_M} {f wh fa Z : Nat} (s : FS M f wh fa Z) : f ≠ wh ∧ f ≠ fa ∧ wh ≠ fa := by
  obtain ⟨s1, s2, s3, s4, s5, s6, s7, s8, s9, s10⟩ := s
  refine ⟨fun e => ?_, fun e => ?_, fun e => ?_⟩
  · rw [e] at s1; omega
  · rw [e] at s1; omega
  · rw [e] at s4; omega
theorem FS.is {M : q_M} {f wh fa Z : Nat} (s : FS M f wh fa Z) : q_isT 1 (M.1 f) = true := by rw [s.1]; rfl
theorem FS.n23 {M : q_M} {f wh fa Z : Nat} (s : FS M f wh fa Z) (h : SH M) : ¬ fdc f wh fa 23 := by
  obtain ⟨s1, s2, s3, s4, s5, s6, s7, s8, s9, s10⟩ := s
  have t : M.1 23 = 21 := h.1 23 (by omega)
  rintro (e | e | e)
  · rw [← e] at s1; omega
  · rw [← e] at s4; omega
  · rw [← e] at s6; omega
theorem FS.n63 {M : q_M} {f wh fa Z : Nat} (s : FS M f wh fa Z) {c : Nat} (h : 63 ≤ c) : ¬ fdc f wh fa c := by
  obtain ⟨_, _, _, _, _, _, _, _, s9, _⟩ := s
  rintro (e | e | e) <;> omega
/-- what finds hold -/
def FQ (M : q_M) (f wh fa n : Nat) (P : Nat → Nat → Nat) (d : Nat → Nat) (rd : Nat) : Prop := gI M f 2 = nI n ∧ gI M f 3 = nI rd ∧ ∀ r, r < n → gL M fa r = lN (d r) ∧ ∃ c, gR M wh r = some c ∧ PO M c (P r)
theorem FQ.cg {M : q_M} {f wh fa n : Nat} {P P' : Nat → Nat → Nat} {d d' : Nat → Nat} {rd : Nat} (h : FQ M f wh fa n P d rd) (e : ∀ r, r < n → P' r = P r ∧ d' r = d r) : FQ M f wh fa n P' d' rd := ⟨h.1, h.2.1, fun r hr => by
  obtain ⟨a, c, b1, b2⟩ := h.2.2 r hr
  rw [(e r hr).1, (e r hr).2]
  exact ⟨a, c, b1, b2⟩⟩
theorem FQ.kp {M M1 : q_M} {f wh fa n : Nat} {P : Nat → Nat → Nat} {d : Nat → Nat} {rd : Nat} (h : FQ M f wh fa n P d rd) (k : KP M M1) (e : ∀ x, gI M1 f x = gI M f x ∧ gL M1 fa x = gL M fa x ∧ gR M1 wh x = gR M wh x) : FQ M1 f wh fa n P d rd := ⟨(e 2).1.trans h.1, (e 3).1.trans h.2.1, fun r hr => by
  obtain ⟨a, c, b1, b2⟩ := h.2.2 r hr
  exact ⟨(e r).2.1.trans a, c, (e r).2.2.trans b1, b2.kp k⟩⟩
theorem K_fb {M : q_M} {f wh fa Z : Nat} (s : FS M f wh fa Z) (P : Nat → Nat → Nat) (d : Nat → Nat) : ∃ M1, q_CL 8 [.inr (.inr (some f))] M = some (none, M1) ∧ fr (fun a k => a = f ∧ (k = 2 ∨ k = 3)) M M1 ∧ FQ M1 f wh fa 0 P d 0 := by
  refine ⟨stI (stI M f 2 (nI 0)) f 3 (nI 0), ?_, ((fr.rf _ M).st ⟨rfl, Or.inl rfl⟩).st ⟨rfl, Or.inr rfl⟩, (gI_oth (by omega)).trans gI_self, gI_self, fun r hr => by omega⟩
  rw [C_X1_begin]
  have i1 : q_isT 1 ((stI M f 2 (nI 0)).1 f) = true := s.is
  simp only [z_sI s.is, Option.bind_some, z_sI i1]
/-- one more at the end -/
def snP (P : Nat → Nat → Nat) (n : Nat) (Q : Nat → Nat) (r : Nat) : Nat → Nat := if r = n then Q else P r
def snD (d : Nat → Nat) (n x r : Nat) : Nat := if r = n then x else d r
theorem K_fapp {M : q_M} {f wh fa Z n rd c x : Nat} {P : Nat → Nat → Nat} {d Q : Nat → Nat} (h : SH M) (s : FS M f wh fa Z) (q : FQ M f wh fa n P d rd) (hn : n < Z) (pc : PO M c Q) : ∃ M1, q_CL 9 [.inr (.inr (some f)), .inr (.inr (some c)), .inr (.inl (lN x))] M = some (none, M1) ∧ FC (fdc f wh fa) M M1 ∧ FQ M1 f wh fa (n + 1) (snP P n Q) (snD d n x) rd ∧ FS M1 f wh fa Z := by
  obtain ⟨n1, n2, n3⟩ := s.nd
  have s' := s
  obtain ⟨s1, s2, s3, s4, s5, s6, s7, s8, s9, s10⟩ := s
  obtain ⟨q1, q2, q3⟩ := q
  have i := s'.is
  have i1 : q_isT 1 ((stR M wh n (some c)).1 f) = true := i
  have i2 : q_isT 1 ((stL (stR M wh n (some c)) fa n (lN x)).1 f) = true := i
  have f1 : FC (fdc f wh fa) M (stI (stL (stR M wh n (some c)) fa n (lN x)) f 2 (nI (n + 1))) := (((FC.rf (fdc f wh fa) M).sR (Or.inr (Or.inl rfl)) (s8 n)).sL (Or.inr (Or.inr rfl))).sI (Or.inl rfl)
  refine ⟨_, ?_, f1, ⟨gI_self, ?_, fun r hr => ?_⟩, s'.fc f1 ?_ ?_⟩
  · have ln : q_len M wh = some (nI Z) := by unfold q_len; rw [s4, if_pos (by omega), s5]; rfl
    have may : q_may M (M.1 wh) (some c) = true := by rw [s4]; show Nat.beq (M.1 c) 2 = true; rw [pc.1]; rfl
    have g1 : gR (stR M wh n (some c)) f 1 = some fa := by rw [gR_stR, if_neg (fun e => n1 e.1)]; exact s3
    have g2 : gI (stR M wh n (some c)) f 2 = nI n := q1
    have g3 : gI (stL (stR M wh n (some c)) fa n (lN x)) f 2 = nI n := q1
    rw [C_X1_append]
    simp only [z_fI i, q1, Option.bind_some, z_fR i, s2, ln]
    rw [if_neg (nI_ge hn (by omega))]
    simp only [z_bR (v := some c) ⟨show 17 ≤ M.1 wh by omega, show M.1 wh ≤ 21 by omega, may⟩ s5 hn (show Z ≤ 2147483647 by omega), Option.bind_some, z_fR i1, g1, z_fI i1, g2, z_bL (show (stR M wh n (some c)).1 fa = 15 from s6) (show (stR M wh n (some c)).2.1 fa = Z from s7) hn (show Z ≤ 2147483647 by omega), z_fI i2, g3, nI_add, z_sI i2]
  · rw [gI_oth (by omega)]; exact q2
  · have ns : ¬ fdc f wh fa 23 := s'.n23 h
    by_cases e : r = n
    · have e1 : snP P n Q r = Q := if_pos e
      have e2 : snD d n x r = x := if_pos e
      rw [e1, e2]
      refine ⟨?_, c, ?_, pc.fc f1 ns (s'.n63 pc.2.2.2.2.2.2.2.1)⟩
      · rw [gL_stI, gL_stL, if_pos ⟨rfl, e⟩]
      · rw [gR_stI, gR_stL, gR_stR, if_pos ⟨rfl, e⟩]
    · have e1 : snP P n Q r = P r := if_neg e
      have e2 : snD d n x r = d r := if_neg e
      rw [e1, e2]
      obtain ⟨a, c', b1, b2⟩ := q3 r (by omega)
      refine ⟨?_, c', ?_, b2.fc f1 ns (s'.n63 b2.2.2.2.2.2.2.2.1)⟩
      · rw [gL_stI, gL_stL, if_neg (fun z => e z.2)]; exact a
      · rw [gR_stI, gR_stL, gR_stR, if_neg (fun z => e z.2)]; exact b1
  · rw [gR_stI, gR_stL, gR_stR, if_neg (fun e => n1 e.1)]
  · rw [gR_stI, gR_stL, gR_stR, if_neg (fun e => n1 e.1)]
/-! offer -/
def bfr (x : Nat) (Q : Nat → Nat) (y : Nat) (R : Nat → Nat) : Prop := x < y ∨ (x = y ∧ Q 0 < R 0)
theorem K_isBef {M : q_M} {f wh fa Z n rd c x r : Nat} {P : Nat → Nat → Nat} {d Q : Nat → Nat} (s : FS M f wh fa Z) (q : FQ M f wh fa n P d rd) (hn : n ≤ Z) (pc : PO M c Q) (hr : r < n) (hx : x < 2 ^ 62) (hd : d r < 2 ^ 62) (h0 : Q 0 < 2 ^ 31) (hP : P r 0 < 2 ^ 31) : (bfr x Q (d r) (P r) → q_CL 13 [.inr (.inr (some f)), .inr (.inr (some c)), .inr (.inl (lN x)), .inl (nI r)] M = some (some (.inl (nI 1)), M)) ∧ (¬ bfr x Q (d r) (P r) → q_CL 13 [.inr (.inr (some f)), .inr (.inr (some c)), .inr (.inl (lN x)), .inl (nI r)] M = some (some (.inl (nI 0)), M)) := by
  have i := s.is
  obtain ⟨s1, s2, s3, s4, s5, s6, s7, s8, s9, s10⟩ := s
  obtain ⟨q1, q2, q3⟩ := q
  obtain ⟨a, c', b1, b2⟩ := q3 r hr
  have f0 := pc.f.1
  have g0 := b2.f.1
  have o0 : (nI 0 = 0 ∨ nI 0 = 1) := Or.inl nI_0
  have o1 : (nI 1 = 0 ∨ nI 1 = 1) := Or.inr rfl
  rw [C_X1_isBefore]
  simp only [z_fR i, s3, Option.bind_some, z_aL s6 s7 (show r < Z by omega) (show Z ≤ 2147483647 by omega), a, lg_cmp_lt, lg_cmp_eq, pk_lLT (show x < 2 ^ 63 by omega) (show d r < 2 ^ 63 by omega), pk_lEQ (show x < 2 ^ 63 by omega) (show d r < 2 ^ 63 by omega), if_pos o0, if_pos o1, f0, s2, z_aR (show 17 ≤ M.1 wh ∧ M.1 wh ≤ 22 by omega) s5 (show r < Z by omega) (show Z ≤ 2147483647 by omega), b1, g0]
  unfold bfr
  by_cases y1 : x < d r
  · rw [if_pos y1]
    exact ⟨fun _ => rfl, fun z => absurd (Or.inl y1) z⟩
  rw [if_neg y1]
  by_cases y2 : x = d r
  · rw [if_pos y2]
    by_cases y3 : Q 0 < P r 0
    · rw [if_neg (nI_ge y3 hP)]
      exact ⟨fun _ => rfl, fun z => absurd (Or.inr ⟨y2, y3⟩) z⟩
    · rw [if_pos (nI_le (by omega) h0)]
      exact ⟨fun z => by omega, fun _ => rfl⟩
  · rw [if_neg y2]
    exact ⟨fun z => by omega, fun _ => rfl⟩
def inP (P : Nat → Nat → Nat) (p : Nat) (Q : Nat → Nat) (r : Nat) : Nat → Nat := if r < p then P r else if r = p then Q else P (r - 1)
def inD (d : Nat → Nat) (p x r : Nat) : Nat := if r < p then d r else if r = p then x else d (r - 1)
theorem K_of73 {M0 : q_M} {f wh fa Z n rd c x p n' : Nat} {P : Nat → Nat → Nat} {d Q : Nat → Nat} (h : SH M0) (s : FS M0 f wh fa Z) (q3 : ∀ r, r < n → gL M0 fa r = lN (d r) ∧ ∃ c, gR M0 wh r = some c ∧ PO M0 c (P r)) (g3 : gI M0 f 3 = nI rd) (g2 : gI M0 f 2 = nI n') (hn : n' ≤ n + 1) (hZ : n' ≤ Z) (hp : p < n') (pc : PO M0 c Q) {d3 : Option q_V} {x4 x5 : Int32} : ∀ k j, j = p + k → j < n' → ∀ A, FC (fdc f wh fa) M0 A → FS A f wh fa Z → (∀ k, gI A f k = gI M0 f k) → (∀ r, r < n' → r ≠ j → gL A fa r = (if j < r then gL M0 fa (r - 1) else gL M0 fa r) ∧ gR A wh r = if j < r then gR M0 wh (r - 1) else gR M0 wh r) → ∃ M1, q_RL T_X1_offer (73, [some (.inr (.inr (some f))), some (.inr (.inr (some c))), some (.inr (.inl (lN x))), d3, some (.inl x4), some (.inl x5), some (.inl (nI p)), some (.inl (nI j))], [], A) = some (none, M1) ∧ FC (fdc f wh fa) M0 M1 ∧ FQ M1 f wh fa n' (inP P p Q) (inD d p x) rd ∧ FS M1 f wh fa Z := by
  obtain ⟨n1, n2, n3⟩ := s.nd
  have s10 := s.2.2.2.2.2.2.2.2.2
  intro k
  induction k with
  | zero =>
    intro j hj hjn A fA sA a1 a2
    rw [Nat.add_zero] at hj
    subst hj
    have sA' := sA
    obtain ⟨t1, t2, t3, t4, t5, t6, t7, t8, t9, t10⟩ := sA
    have i := sA'.is
    have i1 : q_isT 1 ((stR A wh j (some c)).1 f) = true := i
    have fB : FC (fdc f wh fa) M0 (stL (stR A wh j (some c)) fa j (lN x)) := (fA.sR (Or.inr (Or.inl rfl)) (t8 j)).sL (Or.inr (Or.inr rfl))
    have ns : ¬ fdc f wh fa 23 := s.n23 h
    have pcA := pc.fc fA ns (s.n63 pc.2.2.2.2.2.2.2.1)
    have may : q_may A (A.1 wh) (some c) = true := by rw [t4]; show Nat.beq (A.1 c) 2 = true; rw [pcA.1]; rfl
    have g1 : gR (stR A wh j (some c)) f 1 = some fa := by rw [gR_stR, if_neg (fun e => n1 e.1)]; exact t3
    refine ⟨_, ?_, fB, ⟨(a1 2).trans g2, (a1 3).trans g3, fun r hr => ?_⟩, s.fc fB ?_ ?_⟩
    · rw [E_X1_offer_73, if_pos (nI_le (Nat.le_refl _) (by omega))]
      simp only [z_fR i, t2, Option.bind_some, z_bR (v := some c) ⟨show 17 ≤ A.1 wh by omega, show A.1 wh ≤ 21 by omega, may⟩ t5 (show j < Z by omega) (show Z ≤ 2147483647 by omega), z_fR i1, g1, z_bL (show (stR A wh j (some c)).1 fa = 15 from t6) (show (stR A wh j (some c)).2.1 fa = Z from t7) (show j < Z by omega) (show Z ≤ 2147483647 by omega)]
    · by_cases e : r = j
      · have e1 : inP P j Q r = Q := by unfold inP; rw [if_neg (by omega), if_pos e]
        have e2 : inD d j x r = x := by unfold inD; rw [if_neg (by omega), if_pos e]
        rw [e1, e2]
        refine ⟨?_, c, ?_, pc.fc fB ns (s.n63 pc.2.2.2.2.2.2.2.1)⟩
        · rw [gL_stL, if_pos ⟨rfl, e⟩]
        · rw [gR_stL, gR_stR, if_pos ⟨rfl, e⟩]
      · obtain ⟨y1, y2⟩ := a2 r hr e
        have z1 : gL (stL (stR A wh j (some c)) fa j (lN x)) fa r = gL A fa r := by rw [gL_stL, if_neg (fun z => e z.2)]; rfl
        have z2 : gR (stL (stR A wh j (some c)) fa j (lN x)) wh r = gR A wh r := by rw [gR_stL, gR_stR, if_neg (fun z => e z.2)]
        by_cases e2 : j < r
        · rw [if_pos e2] at y1 y2
          have e1 : inP P j Q r = P (r - 1) := by unfold inP; rw [if_neg (by omega), if_neg e]
          have e3 : inD d j x r = d (r - 1) := by unfold inD; rw [if_neg (by omega), if_neg e]
          rw [e1, e3]
          obtain ⟨a, c', b1, b2⟩ := q3 (r - 1) (by omega)
          exact ⟨(z1.trans y1).trans a, c', (z2.trans y2).trans b1, b2.fc fB ns (s.n63 b2.2.2.2.2.2.2.2.1)⟩
        · rw [if_neg e2] at y1 y2
          have e1 : inP P j Q r = P r := by unfold inP; rw [if_pos (by omega)]
          have e3 : inD d j x r = d r := by unfold inD; rw [if_pos (by omega)]
          rw [e1, e3]
          obtain ⟨a, c', b1, b2⟩ := q3 r (by omega)
          exact ⟨(z1.trans y1).trans a, c', (z2.trans y2).trans b1, b2.fc fB ns (s.n63 b2.2.2.2.2.2.2.2.1)⟩
    · rw [gR_stL, gR_stR, if_neg (fun e => n1 e.1), t2]; exact s.2.1.symm
    · rw [gR_stL, gR_stR, if_neg (fun e => n1 e.1), t3]; exact s.2.2.1.symm
  | succ k ih =>
    intro j hj hjn A fA sA a1 a2
    have sA' := sA
    obtain ⟨t1, t2, t3, t4, t5, t6, t7, t8, t9, t10⟩ := sA
    have i := sA'.is
    obtain ⟨b0, c', b1, b2⟩ := q3 (j - 1) (by omega)
    obtain ⟨y1, y2⟩ := a2 (j - 1) (by omega) (by omega)
    rw [if_neg (by omega), b0] at y1
    rw [if_neg (by omega), b1] at y2
    have ns : ¬ fdc f wh fa 23 := s.n23 h
    have pcA := b2.fc fA ns (s.n63 b2.2.2.2.2.2.2.2.1)
    have may : q_may A (A.1 wh) (some c') = true := by rw [t4]; show Nat.beq (A.1 c') 2 = true; rw [pcA.1]; rfl
    have i1 : q_isT 1 ((stR A wh j (some c')).1 f) = true := i
    have g1 : gR (stR A wh j (some c')) f 1 = some fa := by rw [gR_stR, if_neg (fun e => n1 e.1)]; exact t3
    have g4 : gL (stR A wh j (some c')) fa (j - 1) = lN (d (j - 1)) := y1
    have fB : FC (fdc f wh fa) M0 (stL (stR A wh j (some c')) fa j (lN (d (j - 1)))) := (fA.sR (Or.inr (Or.inl rfl)) (t8 j)).sL (Or.inr (Or.inr rfl))
    have sB : FS (stL (stR A wh j (some c')) fa j (lN (d (j - 1)))) f wh fa Z := s.fc fB (by rw [gR_stL, gR_stR, if_neg (fun e => n1 e.1), t2]; exact s.2.1.symm) (by rw [gR_stL, gR_stR, if_neg (fun e => n1 e.1), t3]; exact s.2.2.1.symm)
    obtain ⟨M1, u1, u2, u3, u4⟩ := ih (j - 1) (by omega) (by omega) (stL (stR A wh j (some c')) fa j (lN (d (j - 1)))) fB sB a1 (fun r hr ne => by
      by_cases e : r = j
      · rw [if_pos (by omega), if_pos (by omega)]
        refine ⟨?_, ?_⟩
        · rw [gL_stL, if_pos ⟨rfl, e⟩, e]; exact b0.symm
        · rw [gR_stL, gR_stR, if_pos ⟨rfl, e⟩, e]; exact b1.symm
      · obtain ⟨w1, w2⟩ := a2 r hr e
        have z1 : gL (stL (stR A wh j (some c')) fa j (lN (d (j - 1)))) fa r = gL A fa r := by rw [gL_stL, if_neg (fun z => e z.2)]; rfl
        have z2 : gR (stL (stR A wh j (some c')) fa j (lN (d (j - 1)))) wh r = gR A wh r := by rw [gR_stL, gR_stR, if_neg (fun z => e z.2)]
        by_cases e2 : j < r
        · rw [if_pos e2] at w1 w2
          rw [if_pos (by omega), if_pos (by omega)]
          exact ⟨z1.trans w1, z2.trans w2⟩
        · rw [if_neg e2] at w1 w2
          rw [if_neg (by omega), if_neg (by omega)]
          exact ⟨z1.trans w1, z2.trans w2⟩)
    refine ⟨M1, ?_, u2, u3, u4⟩
    have ej : nI j + (-1) = nI (j - 1) := by rw [show j = j - 1 + 1 by omega, pk_m1]; rfl
    rw [E_X1_offer_73, if_neg (nI_ge (by omega) (by omega))]
    simp only [z_fR i, t2, Option.bind_some, pk_sub (show 1 ≤ j by omega), z_aR (show 17 ≤ A.1 wh ∧ A.1 wh ≤ 22 by omega) t5 (show j - 1 < Z by omega) (show Z ≤ 2147483647 by omega), y2, z_bR (v := some c') ⟨show 17 ≤ A.1 wh by omega, show A.1 wh ≤ 21 by omega, may⟩ t5 (show j < Z by omega) (show Z ≤ 2147483647 by omega), z_fR i1, g1, z_aL (show (stR A wh j (some c')).1 fa = 15 from t6) (show (stR A wh j (some c')).2.1 fa = Z from t7) (show j - 1 < Z by omega) (show Z ≤ 2147483647 by omega), g4, z_bL (show (stR A wh j (some c')).1 fa = 15 from t6) (show (stR A wh j (some c')).2.1 fa = Z from t7) (show j < Z by omega) (show Z ≤ 2147483647 by omega), ej]
    exact u1
