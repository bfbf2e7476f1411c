/-! ===== THE CLASS: a whole state ===== -/
def LZ (M : q_M) (b : Nat) : Prop := ∀ j, j < 4 → gR M (b + 13 + 2 * j) 1 = none → gI M (b + 13 + 2 * j) 3 = nI 0
/-- the class's state at b is v, its window w -/
def SI (M : q_M) (b : Nat) (v : Nat → Nat) (w : Nat → Int32) : Prop := CS M b v ∧ CR M b w ∧ TL M b v ∧ HS M b v ∧ FN M b v ∧ RK M b v ∧ LZ M b
def DnC (M A : q_M) (d s n : Nat) : Prop := gI A d 1 = nI n ∧ ∀ x, x < n → gR A (d + 1) x = gR M (s + 1) x
def DnS (M A : q_M) (d s j n : Nat) : Prop := gR A (d + 13 + 2 * j) 0 = gR M (s + 13 + 2 * j) 0 ∧ gR A (d + 13 + 2 * j) 1 = gR M (s + 13 + 2 * j) 1 ∧ gI A (d + 13 + 2 * j) 3 = nI n ∧ ∀ k, k < n → gR A (d + 14 + 2 * j) k = gR M (s + 14 + 2 * j) k
theorem DnC.fc {P : Nat → Prop} {M A B : q_M} {d s n : Nat} (h : DnC M A d s n) (f : FC P A B) (n1 : ¬ P d) (n2 : ¬ P (d + 1)) : DnC M B d s n := ⟨(f.2.2.2.1 d 1 n1).1.trans h.1, fun x hx => (f.2.2.2.1 (d + 1) x n2).2.2.trans (h.2 x hx)⟩
theorem DnS.fc {P : Nat → Prop} {M A B : q_M} {d s j n : Nat} (h : DnS M A d s j n) (f : FC P A B) (n1 : ¬ P (d + 13 + 2 * j)) (n2 : ¬ P (d + 14 + 2 * j)) : DnS M B d s j n := ⟨(f.2.2.2.1 _ 0 n1).2.2.trans h.1, (f.2.2.2.1 _ 1 n1).2.2.trans h.2.1, (f.2.2.2.1 _ 3 n1).1.trans h.2.2.1, fun k hk => (f.2.2.2.1 _ k n2).2.2.trans (h.2.2.2 k hk)⟩
theorem K_cp10 {M : q_M} {d s n : Nat} (sd : SB M d) (ss : SB M s) (ap : d + 21 ≤ s ∨ s + 21 ≤ d) (hD : d = 2 ∨ 63 ≤ d) (hn : n ≤ 8) (cu : ∀ i, i < n → ∃ c, gR M (s + 1) i = some c ∧ (M.1 c = 0 ∨ M.1 c = 6 ∨ M.1 c = 9)) : ∀ m k, k + m = n → ∀ A, FD d M A → gI A d 1 = nI n → (∀ x, x < k → gR A (d + 1) x = gR M (s + 1) x) → ∃ B, q_RL T_X8_copyFrom (10, [some (.inr (.inr (some d))), some (.inr (.inr (some s))), some (.inl (nI k))], [], A) = q_RL T_X8_copyFrom (38, [some (.inr (.inr (some d))), some (.inr (.inr (some s))), some (.inl (nI 0))], [], B) ∧ FD d M B ∧ DnC M B d s n := by
  intro m
  induction m with
  | zero =>
    intro k hk A f g dn
    rw [Nat.add_zero] at hk
    subst hk
    refine ⟨A, ?_, f, g, dn⟩
    rw [E_X8_copyFrom_10]
    simp only [z_fI (f.sb sd).t0, g, Option.bind_some]
    rw [if_pos (nI_le (Nat.le_refl _) (by omega))]
  | succ m ih =>
    intro k hk A f g dn
    have sA := f.sb sd
    have sS : SB A s := f.1.so (fun x hx z => by unfold stR_ at z; omega) ss
    obtain ⟨c, e1, e2⟩ := cu k (by omega)
    have e1A : gR A (s + 1) k = some c := (f.1.2.2.2.1 (s + 1) k (fun z => by unfold stR_ at z; omega)).2.2.trans e1
    have t1 : A.1 (d + 1) = 17 := sA.tg (x := 1) (by omega) rfl
    have may : q_may A (A.1 (d + 1)) (some c) = true := by
      rw [t1]
      show (Nat.beq (A.1 c) 0 || Nat.beq (A.1 c) 6 || Nat.beq (A.1 c) 9) = true
      rw [f.1.1]
      rcases e2 with z | z | z <;> rw [z] <;> rfl
    have fB : FD d M (stR A (d + 1) k (some c)) := by
      refine ⟨f.1.sR (by unfold stR_; omega) (isc_st hD (by omega) (fun e he z => (show ∀ e ∈ stF, e.1 ≠ 1 by decide) e he z.1)), fun e he => ?_⟩
      rw [gR_stR, if_neg (fun z => (show ∀ e ∈ stF, e.1 ≠ 1 by decide) e he (by omega))]
      exact f.2 e he
    obtain ⟨B, b1, b2⟩ := ih (k + 1) (by omega) (stR A (d + 1) k (some c)) fB g (fun x hx => by
      rw [gR_stR]
      by_cases z : x = k
      · rw [if_pos ⟨rfl, z⟩, z, e1]
      · rw [if_neg (by omega)]; exact dn x (by omega))
    refine ⟨B, ?_, b2⟩
    rw [E_X8_copyFrom_10]
    simp only [z_fI sA.t0, g, Option.bind_some]
    rw [if_neg (nI_ge (by omega) (by omega))]
    simp only [sA.f0 (show (0, 0, 1) ∈ stF by decide), Option.bind_some, sS.f0 (show (0, 0, 1) ∈ stF by decide), z_aR (M := A) (a := s + 1) (k := k) (n := 8) (by rw [sS.tg (x := 1) (by omega) rfl]; decide) (sS.ln (x := 1) (by omega) rfl) (by omega) (by omega), e1A, z_bR (M := A) (a := d + 1) (k := k) (n := 8) (v := some c) ⟨by omega, by omega, may⟩ (sA.ln (x := 1) (by omega) rfl) (by omega) (by omega), nI_1]
    exact b1
theorem K_cp38 {M : q_M} {d s n : Nat} {lf : Nat → Nat} (sd : SB M d) (ss : SB M s) (ap : d + 21 ≤ s ∨ s + 21 ≤ d) (hD : d = 2 ∨ 63 ≤ d) (hl : ∀ j, j < 4 → lf j ≤ 6 ∧ gI M (s + 13 + 2 * j) 3 = nI (lf j) ∧ ∀ k, k < lf j → ∃ r, gR M (s + 14 + 2 * j) k = some r ∧ M.1 r = 3) : ∀ m k, k + m = 4 → ∀ A, FD d M A → DnC M A d s n → (∀ j, j < k → DnS M A d s j (lf j)) → ∃ B, q_RL T_X8_copyFrom (38, [some (.inr (.inr (some d))), some (.inr (.inr (some s))), some (.inl (nI k))], [], A) = q_RL T_X8_copyFrom (38, [some (.inr (.inr (some d))), some (.inr (.inr (some s))), some (.inl (nI 4))], [], B) ∧ FD d M B ∧ DnC M B d s n ∧ ∀ j, j < 4 → DnS M B d s j (lf j) := by
  intro m
  induction m with
  | zero =>
    intro k hk A f dc dn
    rw [Nat.add_zero] at hk
    subst hk
    exact ⟨A, rfl, f, dc, dn⟩
  | succ m ih =>
    intro k hk A f dc dn
    have hk4 : k < 4 := by omega
    have sA := f.sb sd
    have sS : SB A s := f.1.so (fun x hx z => by unfold stR_ at z; omega) ss
    have fs : ∀ c x, s ≤ c → c < s + 21 → gI A c x = gI M c x ∧ gR A c x = gR M c x := fun c x h1 h2 => by
      have := f.1.2.2.2.1 c x (fun z => by unfold stR_ at z; omega)
      exact ⟨this.1, this.2.2⟩
    obtain ⟨p1, p2, p3, p4, p5⟩ := sA.sj hk4
    obtain ⟨q1, q2, q3, q4, q5⟩ := sS.sj hk4
    obtain ⟨l1, l2, l3⟩ := hl k hk4
    have key : ∀ j, j < 4 → ∀ e ∈ stF, ¬ (e.1 = 13 + 2 * j ∧ (e.2.1 = 0 ∨ e.2.1 = 1)) ∧ e.1 ≠ 14 + 2 * j := by decide
    have e13 : d + 13 + 2 * k = d + (13 + 2 * k) := by omega
    have e14 : d + 14 + 2 * k = d + (14 + 2 * k) := by omega
    obtain ⟨B, b1, b2, b3, b4, b5, b6, b7⟩ := K_cpS (M := A) (n := lf k) p1 p2 p3 p5 q1 q2 q3 q5 (by omega) (by omega) (by rw [e13]; exact isc_st hD (by omega) (fun e he z => (key k hk4 e he).1 ⟨z.1, Or.inl z.2⟩)) (by rw [e13]; exact isc_st hD (by omega) (fun e he z => (key k hk4 e he).1 ⟨z.1, Or.inr z.2⟩)) (fun x => by rw [e14]; exact isc_st hD (by omega) (fun e he z => (key k hk4 e he).2 z.1)) l1 (by rw [(fs _ 3 (by omega) (by omega)).1]; exact l2) (fun x hx => by
      obtain ⟨r, r1, r2⟩ := l3 x hx
      exact ⟨r, by rw [(fs _ x (by omega) (by omega)).2]; exact r1, by rw [f.1.1]; exact r2⟩)
    have fB : FD d M B := by
      refine ⟨f.1.tr (b2.wk fun x z => by unfold stR_; omega), fun e he => ?_⟩
      by_cases z : e.1 = 13 + 2 * k
      · have z2 : e.2.1 = 2 ∧ e.2.2 = 14 + 2 * k := by
          have := (show ∀ j, j < 4 → ∀ e ∈ stF, e.1 = 13 + 2 * j → e.2.1 = 2 ∧ e.2.2 = 14 + 2 * j by decide) k hk4 e he z
          exact this
        rw [z, z2.1, show d + (13 + 2 * k) = d + 13 + 2 * k by omega, b3]
        have := sd.2.2 e he
        rw [z, z2.1, z2.2, show d + (13 + 2 * k) = d + 13 + 2 * k by omega] at this
        rw [this, show d + (14 + 2 * k) = d + 14 + 2 * k by omega]
      · have e1 := (show ∀ e ∈ stF, e.1 < 21 by decide) e he
        have e2 := (key k hk4 e he).2
        exact (b2.2.2.2.1 (d + e.1) e.2.1 (by omega)).2.2.trans (f.2 e he)
    obtain ⟨C, c1, c2⟩ := ih (k + 1) (by omega) B fB (dc.fc b2 (by omega) (by omega)) (fun j hj => by
      by_cases z : j = k
      · subst z
        exact ⟨b4.trans (fs _ 0 (by omega) (by omega)).2, b5.trans (fs _ 1 (by omega) (by omega)).2, b6, fun x hx => (b7 x hx).trans (fs _ x (by omega) (by omega)).2⟩
      · exact (dn j (by omega)).fc b2 (by omega) (by omega))
    refine ⟨C, ?_, c2⟩
    rw [E_X8_copyFrom_38, if_neg (nI_ge hk4 (by omega))]
    simp only [sA.f0 (show (0, 2, 2) ∈ stF by decide), Option.bind_some, sA.aj hk4, sS.f0 (show (0, 2, 2) ∈ stF by decide), sS.aj hk4, z_sel p1, b1, z_rV, nI_1]
    exact c1
theorem SB.sp {M : q_M} {b : Nat} (s : SB M b) : SpO M (b + 4) (b + 5) (b + 6) := ⟨s.tg (x := 4) (by omega) rfl, s.rf (show (4, 0, 5) ∈ stF by decide), s.rf (show (4, 1, 6) ∈ stF by decide), s.tg (x := 5) (by omega) rfl, s.ln (x := 5) (by omega) rfl, s.tg (x := 6) (by omega) rfl, s.ln (x := 6) (by omega) rfl, by omega, by omega, by omega⟩
theorem SpV.fc {P : Nat → Prop} {M A : q_M} {s f l n pl : Nat} {F G : Nat → Nat} (h : SpV M s f l n pl F G) (q : FC P M A) (n1 : ¬ P s) (n2 : ¬ P f) (n3 : ¬ P l) : SpV A s f l n pl F G := ⟨(q.2.2.2.1 s 2 n1).1.trans h.1, (q.2.2.2.1 s 3 n1).2.1.trans h.2.1, fun k hk => ⟨(q.2.2.2.1 f k n2).2.1.trans (h.2.2 k hk).1, (q.2.2.2.1 l k n3).2.1.trans (h.2.2 k hk).2⟩⟩
theorem K_cpT {M : q_M} {d s n nf pl rd : Nat} {lf : Nat → Nat} {ns : Nat} {F G : Nat → Nat} (sd : SB M d) (ss : SB M s) (ap : d + 21 ≤ s ∨ s + 21 ≤ d) (hD : d = 2 ∨ 63 ≤ d) (sv : SpV M (s + 4) (s + 5) (s + 6) ns pl F G) (hns : ns ≤ 200) (hnf : nf ≤ 300) (f2 : gI M (s + 7) 2 = nI nf) (f3 : gI M (s + 7) 3 = nI rd) (hr : ∀ k, k < nf → ∃ r, gR M (s + 8) k = some r ∧ M.1 r = 2) {A : q_M} (f : FD d M A) (dc : DnC M A d s n) (dn : ∀ j, j < 4 → DnS M A d s j (lf j)) : ∃ B, q_RL T_X8_copyFrom (38, [some (.inr (.inr (some d))), some (.inr (.inr (some s))), some (.inl (nI 4))], [], A) = some (none, B) ∧ FD d M B ∧ DnC M B d s n ∧ (∀ j, j < 4 → DnS M B d s j (lf j)) ∧ (∀ k, k < 6 → gI B (d + 3) k = gI M (s + 3) k) ∧ SpV B (d + 4) (d + 5) (d + 6) ns pl F G ∧ (gI B (d + 7) 2 = nI nf ∧ gI B (d + 7) 3 = nI rd ∧ ∀ k, k < nf → gR B (d + 8) k = gR M (s + 8) k ∧ gL B (d + 9) k = gL M (s + 9) k) ∧ ∀ k, k < 8 → gI B (d + 10) k = gI M (s + 10) k ∧ gL B (d + 11) k = gL M (s + 11) k ∧ gL B (d + 12) k = gL M (s + 12) k := by
  have nr : ∀ {x}, s ≤ x → x < s + 21 → ¬ stR_ d x := fun h1 h2 z => by unfold stR_ at z; omega
  have same : ∀ {A' : q_M}, FD d M A' → ∀ c k, s ≤ c → c < s + 21 → gI A' c k = gI M c k ∧ gL A' c k = gL M c k ∧ gR A' c k = gR M c k := fun g c k h1 h2 => g.1.2.2.2.1 c k (nr h1 h2)
  have shS : ∀ {A' : q_M}, FD d M A' → SB A' s := fun g => g.1.so (fun x hx => nr (by omega) (by omega)) ss
  have sA := f.sb sd
  have sS := shS f
  -- corners
  obtain ⟨A1, a1, a2, a3, a4, a5⟩ := z_cpI (M := A) (a := s + 3) (b := d + 3) (n := 6) (sS.tg (x := 3) (by omega) rfl) (sA.tg (x := 3) (by omega) rfl) (by rw [sS.ln (x := 3) (by omega) rfl]; exact Nat.le_refl _) (by rw [sA.ln (x := 3) (by omega) rfl]; exact Nat.le_refl _) (by omega)
  have g1 : FD d M A1 := f.tr (FD.of a2 (fun a z => by unfold stR_; omega) (fun e _ => a5 _ _))
  have sA1 := g1.sb sd
  have sS1 := shS g1
  -- told
  have sv1 : SpV A1 (s + 4) (s + 5) (s + 6) ns pl F G := sv.fc g1.1 (nr (by omega) (by omega)) (nr (by omega) (by omega)) (nr (by omega) (by omega))
  obtain ⟨A2, b1, b2, b3, b4⟩ := K_spCopy sA1.sp sS1.sp sv1 hns ⟨by omega, by omega, by omega, by omega, by omega, by omega, by omega, by omega, by omega⟩
  have g2 : FD d M A2 := g1.tr (FD.of b2 (fun a z => by unfold stR_; omega) (fun e _ => b3 _ _))
  have sA2 := g2.sb sd
  have sS2 := shS g2
  -- finds
  obtain ⟨A3, c1, c2, c3, c4, c5, c6, c7⟩ := K_cpF (M := A2) (a := d + 7) (wa := d + 8) (fa := d + 9) (c := s + 7) (wc := s + 8) (fc := s + 9) (n := nf) (sA2.tg (x := 7) (by omega) rfl) (sA2.tg (x := 8) (by omega) rfl) (sA2.ln (x := 8) (by omega) rfl) (sA2.tg (x := 9) (by omega) rfl) (sA2.ln (x := 9) (by omega) rfl) (sA2.rf (show (7, 0, 8) ∈ stF by decide)) (sA2.rf (show (7, 1, 9) ∈ stF by decide)) (sS2.tg (x := 7) (by omega) rfl) (sS2.tg (x := 8) (by omega) rfl) (sS2.ln (x := 8) (by omega) rfl) (sS2.tg (x := 9) (by omega) rfl) (sS2.ln (x := 9) (by omega) rfl) (sS2.rf (show (7, 0, 8) ∈ stF by decide)) (sS2.rf (show (7, 1, 9) ∈ stF by decide)) (by omega) (by omega) (by omega) (fun k => isc_st hD (by omega) (fun e he z => (show ∀ e ∈ stF, e.1 ≠ 8 by decide) e he z.1)) hnf (by rw [(same g2 _ 2 (by omega) (by omega)).1]; exact f2) (fun k hk => by
    obtain ⟨r, r1, r2⟩ := hr k hk
    exact ⟨r, by rw [(same g2 _ k (by omega) (by omega)).2.2]; exact r1, by rw [g2.1.1]; exact r2⟩)
  have g3 : FD d M A3 := g2.tr (by
    refine FD.of c2 (fun a z => by unfold stR_; omega) (fun e he => ?_)
    by_cases z : e.1 = 7
    · have := (show ∀ e ∈ stF, e.1 = 7 → (e.2.1 = 0 ∧ e.2.2 = 8) ∨ (e.2.1 = 1 ∧ e.2.2 = 9) by decide) e he z
      have q := sA2.2.2 e he
      rw [q, z]
      rcases this with ⟨y1, y2⟩ | ⟨y1, y2⟩
      · rw [y1, y2]; exact c3
      · rw [y1, y2]; exact c4
    · have := (show ∀ e ∈ stF, e.1 ≠ 8 ∧ e.1 ≠ 9 by decide) e he
      exact (c2.2.2.2.1 (d + e.1) e.2.1 (by omega)).2.2)
  have sA3 := g3.sb sd
  have sS3 := shS g3
  -- racks
  obtain ⟨A4, d1, d2, d3, d4, d5⟩ := z_cpI (M := A3) (a := s + 10) (b := d + 10) (n := 8) (sS3.tg (x := 10) (by omega) rfl) (sA3.tg (x := 10) (by omega) rfl) (by rw [sS3.ln (x := 10) (by omega) rfl]; exact Nat.le_refl _) (by rw [sA3.ln (x := 10) (by omega) rfl]; exact Nat.le_refl _) (by omega)
  have g4 : FD d M A4 := g3.tr (FD.of d2 (fun a z => by unfold stR_; omega) (fun e _ => d5 _ _))
  have sA4 := g4.sb sd
  have sS4 := shS g4
  obtain ⟨A5, e1, e2, e3, e4, e5⟩ := z_cpL (M := A4) (a := s + 11) (b := d + 11) (n := 8) (sS4.tg (x := 11) (by omega) rfl) (sA4.tg (x := 11) (by omega) rfl) (by rw [sS4.ln (x := 11) (by omega) rfl]; exact Nat.le_refl _) (by rw [sA4.ln (x := 11) (by omega) rfl]; exact Nat.le_refl _) (by omega)
  have g5 : FD d M A5 := g4.tr (FD.of e2 (fun a z => by unfold stR_; omega) (fun e _ => e5 _ _))
  have sA5 := g5.sb sd
  have sS5 := shS g5
  obtain ⟨A6, h1, h2, h3, h4, h5⟩ := z_cpL (M := A5) (a := s + 12) (b := d + 12) (n := 8) (sS5.tg (x := 12) (by omega) rfl) (sA5.tg (x := 12) (by omega) rfl) (by rw [sS5.ln (x := 12) (by omega) rfl]; exact Nat.le_refl _) (by rw [sA5.ln (x := 12) (by omega) rfl]; exact Nat.le_refl _) (by omega)
  have g6 : FD d M A6 := g5.tr (FD.of h2 (fun a z => by unfold stR_; omega) (fun e _ => h5 _ _))
  -- what each later step leaves
  have ln : q_len A (d + 3) = some (nI 6) := by unfold q_len; rw [sA.tg (x := 3) (t := 14) (by omega) rfl, if_pos (by omega), sA.ln (x := 3) (t := 6) (by omega) rfl]; rfl
  have P1 : FC (fun a => d + 3 ≤ a ∧ a ≤ d + 12) A A6 := (a2.wk fun a z => by omega).tr ((b2.wk fun a z => by omega).tr ((c2.wk fun a z => by omega).tr ((d2.wk fun a z => by omega).tr ((e2.wk fun a z => by omega).tr (h2.wk fun a z => by omega)))))
  have Pe : FC (fun a => d + 4 ≤ a ∧ a ≤ d + 12) A1 A6 := (b2.wk fun a z => by omega).tr ((c2.wk fun a z => by omega).tr ((d2.wk fun a z => by omega).tr ((e2.wk fun a z => by omega).tr (h2.wk fun a z => by omega))))
  have Pf : FC (fun a => d + 7 ≤ a ∧ a ≤ d + 12) A2 A6 := (c2.wk fun a z => by omega).tr ((d2.wk fun a z => by omega).tr ((e2.wk fun a z => by omega).tr (h2.wk fun a z => by omega)))
  have Pg : FC (fun a => d + 10 ≤ a ∧ a ≤ d + 12) A3 A6 := (d2.wk fun a z => by omega).tr ((e2.wk fun a z => by omega).tr (h2.wk fun a z => by omega))
  have Ph : FC (fun a => d + 11 ≤ a ∧ a ≤ d + 12) A4 A6 := (e2.wk fun a z => by omega).tr (h2.wk fun a z => by omega)
  refine ⟨A6, ?_, g6, dc.fc P1 (by omega) (by omega), fun j hj => (dn j hj).fc P1 (by omega) (by omega), fun k hk => ?_, b4.fc Pf (by omega) (by omega) (by omega), ⟨(Pg.2.2.2.1 _ 2 (by omega)).1.trans c5, ?_, fun k hk => ⟨?_, ?_⟩⟩, fun k hk => ⟨?_, ?_, ?_⟩⟩
  · rw [E_X8_copyFrom_38, if_pos (nI_le (Nat.le_refl _) (by omega))]
    simp only [Option.bind_some, sS.f0 (show (0, 3, 3) ∈ stF by decide), sA.f0 (show (0, 3, 3) ∈ stF by decide), ln, a1, sA1.f0 (show (0, 4, 4) ∈ stF by decide), sS1.f0 (show (0, 4, 4) ∈ stF by decide), z_sel sA1.sp.1, b1, z_rV, sA2.f0 (show (0, 5, 7) ∈ stF by decide), sS2.f0 (show (0, 5, 7) ∈ stF by decide), z_sel (sA2.tg (x := 7) (t := 1) (by omega) rfl), c1, sS3.f0 (show (0, 6, 10) ∈ stF by decide), sA3.f0 (show (0, 6, 10) ∈ stF by decide), d1, sS4.f0 (show (0, 7, 11) ∈ stF by decide), sA4.f0 (show (0, 7, 11) ∈ stF by decide), e1, sS5.f0 (show (0, 8, 12) ∈ stF by decide), sA5.f0 (show (0, 8, 12) ∈ stF by decide), h1]
  · rw [(Pe.2.2.2.1 (d + 3) k (by omega)).1, a3, if_pos hk]
    exact (same f _ k (by omega) (by omega)).1
  · rw [(Pg.2.2.2.1 _ 3 (by omega)).1, c6, (same g2 _ 3 (by omega) (by omega)).1]
    exact f3
  · rw [(Pg.2.2.2.1 _ k (by omega)).2.2, (c7 k hk).1]
    exact (same g2 _ k (by omega) (by omega)).2.2
  · rw [(Pg.2.2.2.1 _ k (by omega)).2.1, (c7 k hk).2]
    exact (same g2 _ k (by omega) (by omega)).2.1
  · rw [(Ph.2.2.2.1 (d + 10) k (by omega)).1, d3, if_pos hk]
    exact (same g3 _ k (by omega) (by omega)).1
  · rw [(h2.2.2.2.1 (d + 11) k (by omega)).2.1, e3, if_pos hk]
    exact (same g4 _ k (by omega) (by omega)).2.1
  · rw [h3, if_pos hk]
    exact (same g5 _ k (by omega) (by omega)).2.1
theorem K_cpSt {M : q_M} {d s : Nat} {v : Nat → Nat} {w : Nat → Int32} (sd : SB M d) (ss : SB M s) (ap : d + 21 ≤ s ∨ s + 21 ≤ d) (hD : d = 2 ∨ 63 ≤ d) (nst : ∀ a, d ≤ a → a < d + 21 → ¬ ST M a ∧ a ≠ 23) (sv : SV v) (h5 : v 55 ≤ 200) (si : SI M s v w) : ∃ M1, q_CL 61 [.inr (.inr (some d)), .inr (.inr (some s))] M = some (none, M1) ∧ FD d M M1 ∧ SI M1 d v w := by
  obtain ⟨cs, cr, tl, hs, fn, rk, lz⟩ := si
  have v8 := sv.1.1
  obtain ⟨n300, P, fq, fn1, fn2⟩ := fn
  let lf : Nat → Nat := fun j => if v (oS j) = 1 then v (60180 + j) else 0
  have hl : ∀ j, j < 4 → lf j ≤ 6 ∧ gI M (s + 13 + 2 * j) 3 = nI (lf j) ∧ ∀ k, k < lf j → ∃ r, gR M (s + 14 + 2 * j) k = some r ∧ M.1 r = 3 := fun j hj => by
    have v6 := (sv.2 j hj).2.1
    rcases hs j hj with ⟨z0, z1⟩ | ⟨z0, z1, c, r, z2, z3, z4, z5, z6⟩
    · have e : lf j = 0 := if_neg (by omega)
      rw [e]
      exact ⟨by omega, lz j hj z1, fun k hk => by omega⟩
    · have e : lf j = v (60180 + j) := if_pos z0
      rw [e]
      refine ⟨v6, z1, fun k hk => ?_⟩
      obtain ⟨rn, y1, y2⟩ := z6 (v (60180 + j) - k) (by omega) (by omega)
      rw [show v (60180 + j) - (v (60180 + j) - k) = k by omega] at y1
      obtain ⟨ps, sz, x1, _⟩ := y2
      exact ⟨rn, y1, x1.1⟩
  have f0 : FD d M (stI M d 1 (nI (v 0))) := ⟨(FC.rf _ M).sI (by unfold stR_; omega), fun e he => rfl⟩
  obtain ⟨A, a1, a2, a3⟩ := K_cp10 (n := v 0) sd ss ap hD v8 (fun i hi => by
    obtain ⟨c, c1, c2⟩ := cs.2 i hi
    refine ⟨c, c1, ?_⟩
    rw [c2.1]
    unfold kT
    split
    · exact Or.inr (Or.inr rfl)
    · split
      · exact Or.inr (Or.inl rfl)
      · exact Or.inl rfl) (v 0) 0 (by omega) (stI M d 1 (nI (v 0))) f0 (by rw [gI_stI, if_pos ⟨rfl, rfl⟩]) (fun x hx => by omega)
  obtain ⟨B, b1, b2, b3, b4⟩ := K_cp38 (n := v 0) (lf := lf) sd ss ap hD hl 4 0 (by omega) A a2 a3 (fun j hj => by omega)
  obtain ⟨C, c1, c2, c3, c4, c5, c6, ⟨c7, c8, c9⟩, c10⟩ := K_cpT (n := v 0) (nf := v 457) (rd := v 459) (lf := lf) sd ss ap hD tl h5 n300 fq.1 fq.2.1 (fun k hk => by
    obtain ⟨c, c1, c2⟩ := (fq.2.2 k hk).2
    exact ⟨c, c1, c2.1⟩) b2 b3 b4
  have kp : KP M C := c2.1.kp2 (fun a z => nst a z.1 z.2)
  refine ⟨C, ?_, c2, ?_, ?_, c6, ?_, ?_, ?_, ?_⟩
  · rw [C_X8_copyFrom]
    simp only [Option.bind_some, z_fI ss.t0, cs.1, z_sI sd.t0, a1, b1, c1]
  · refine ⟨c3.1, fun i hi => ?_⟩
    obtain ⟨c, q1, q2⟩ := cs.2 i hi
    exact ⟨c, (c3.2 i hi).trans q1, q2.kp kp⟩
  · exact fun j hj => (c5 j hj).trans (cr j hj)
  · intro j hj
    obtain ⟨y0, y1, y2, y3⟩ := c4 j hj
    rcases hs j hj with ⟨z0, z1⟩ | ⟨z0, z1, c, r, z2, z3, z4, z5, z6⟩
    · exact Or.inl ⟨z0, y1.trans z1⟩
    · have e : lf j = v (60180 + j) := if_pos z0
      rw [e] at y2 y3
      refine Or.inr ⟨z0, y2, c, r, y0.trans z2, z3.kp kp, y1.trans z4, z5.kp kp, fun n n1 n2 => ?_⟩
      obtain ⟨rn, x1, x2⟩ := z6 n n1 n2
      exact ⟨rn, (y3 _ (by omega)).trans x1, x2.kp kp⟩
  · refine ⟨n300, P, ⟨c7, c8, fun r hr => ?_⟩, fn1, fn2⟩
    obtain ⟨q1, c, q2, q3⟩ := fq.2.2 r hr
    exact ⟨(c9 r hr).2.trans q1, c, (c9 r hr).1.trans q2, q3.kp kp⟩
  · intro k hk
    obtain ⟨q1, q2, q3, q4, q5⟩ := rk k hk
    obtain ⟨y1, y2, y3⟩ := c10 k hk
    exact ⟨q1, q2, y1.trans q3, fun z => y2.trans (q4 z), fun z1 z2 => y3.trans (q5 z1 z2)⟩
  · intro j hj z
    obtain ⟨y0, y1, y2, y3⟩ := c4 j hj
    rw [y2, ← (hl j hj).2.1]
    exact lz j hj (y1.symm.trans z)
