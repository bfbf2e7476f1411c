/-! ===== THE CLASS: the search ===== -/
def s39 (a : Nat) : Prop := a = 39 ∨ a = 40 ∨ a = 41
/-- what the search aims at -/
def SA (M : q_M) (g : Nat → Nat) (wy : Nat) : Prop := (∀ a, a < 3 → gI M 39 (2 + a) = nI (g a) ∧ g a < 2 ^ 20) ∧ gI M 39 5 = nI wy ∧ wy < 3
theorem SA.fc {P : Nat → Prop} {M M1 : q_M} (f : FC P M M1) (h : ¬ P 39) {g : Nat → Nat} {wy : Nat} (s : SA M g wy) : SA M1 g wy := ⟨fun a ha => ⟨((f.2.2.2.1 39 _ h).1).trans (s.1 a ha).1, (s.1 a ha).2⟩, ((f.2.2.2.1 39 _ h).1).trans s.2.1, s.2.2⟩
theorem i39 {M : q_M} (h : SH M) : q_isT 4 (M.1 39) = true := by rw [h.1 39 (by omega)]; rfl
theorem f39 {M : q_M} (h : SH M) {k c : Nat} (e : (39, k, c) ∈ q_crs) : q_fR M 4 39 k = some (some c) := y_fR h (by omega) rfl e
theorem a40 {M : q_M} (h : SH M) {k : Nat} (hk : k < 300) : q_aL M 40 (nI k) = some (gL M 40 k) := y_aL h (by omega) (by omega) rfl hk (by decide)
theorem b40 {M : q_M} (h : SH M) {k : Nat} {x : Int64} (hk : k < 300) : q_bL M 40 (nI k) x = some (stL M 40 k x) := y_bL h (by omega) (by omega) rfl hk (by decide)
theorem a41 {M : q_M} (h : SH M) {k : Nat} (hk : k < 300) : q_aI M 16 41 (nI k) = some (gI M 41 k) := y_aI h (by omega) (by omega) rfl hk (by decide)
theorem b41 {M : q_M} (h : SH M) {k : Nat} {x : Int32} (hk : k < 300) : q_bI M 16 41 (nI k) x = some (stI M 41 k x) := y_bI h (by omega) (by omega) rfl hk (by decide)
theorem s39_sel {M : q_M} (h : SH M) {y : Nat} : q_sel M [(4, y)] 39 = some y := y_sel h (by omega) rfl
theorem K_aim {M : q_M} (h : SH M) {g : Nat → Nat} {wy : Nat} (hg : ∀ a, a < 3 → g a < 2 ^ 20) (hw : wy < 3) : ∃ M1, q_CL 32 [.inr (.inr (some 39)), .inl (nI (g 0)), .inl (nI (g 1)), .inl (nI (g 2)), .inl (nI wy)] M = some (none, M1) ∧ FC s39 M M1 ∧ SA M1 g wy := by
  refine ⟨stI (stI (stI (stI M 39 2 (nI (g 0))) 39 3 (nI (g 1))) 39 4 (nI (g 2))) 39 5 (nI wy), ?_, ((((FC.rf s39 M).sI (Or.inl rfl)).sI (Or.inl rfl)).sI (Or.inl rfl)).sI (Or.inl rfl), fun a ha => ⟨?_, hg a ha⟩, gI_self, hw⟩
  · have i := i39 h
    rw [C_X4_aim, z_sI i]
    simp only [Option.bind_some]
    rw [z_sI (show q_isT 4 ((stI M 39 2 (nI (g 0))).1 39) = true from i)]
    simp only [Option.bind_some]
    rw [z_sI (show q_isT 4 ((stI (stI M 39 2 (nI (g 0))) 39 3 (nI (g 1))).1 39) = true from i)]
    simp only [Option.bind_some]
    rw [z_sI (show q_isT 4 ((stI (stI (stI M 39 2 (nI (g 0))) 39 3 (nI (g 1))) 39 4 (nI (g 2))).1 39) = true from i)]
    rfl
  · rw [gI_oth (by omega)]
    rcases (show a = 0 ∨ a = 1 ∨ a = 2 by omega) with rfl | rfl | rfl
    · rw [gI_oth (by omega), gI_oth (by omega)]; exact gI_self
    · rw [gI_oth (by omega)]; exact gI_self
    · exact gI_self
theorem K_far {M : q_M} (h : SH M) {g : Nat → Nat} {wy : Nat} (sa : SA M g wy) {c : Nat} {v : Nat → Nat} {o p : Nat} (pc : PO M c (fun t => v (o + 4 + 6 * p + t))) (hb : ∀ a, a < 3 → v (o + 4 + 6 * p + (1 + a)) < 2 ^ 20) : q_CL 40 [.inr (.inr (some 39)), .inr (.inr (some c))] M = some (some (.inr (.inl (lN (dsP v o g wy p)))), M) := by
  obtain ⟨s1, s2, s3⟩ := sa
  obtain ⟨_, _, f2, f3, f4, _⟩ := pc.f
  have g0 := (s1 0 (by omega)).1
  have g1 := (s1 1 (by omega)).1
  have g2 := (s1 2 (by omega)).1
  have b0 := (s1 0 (by omega)).2
  have b1 := (s1 1 (by omega)).2
  have b2 := (s1 2 (by omega)).2
  have p0 := hb 0 (by omega)
  have p1 := hb 1 (by omega)
  have p2 := hb 2 (by omega)
  have a0 := ad_b p0 b0
  have a1 := ad_b p1 b1
  have a2 := ad_b p2 b2
  have e0 : (if 0 ≤ (nI (v (o + 4 + 6 * p + 1)) - nI (g 0)) then (nI (v (o + 4 + 6 * p + 1)) - nI (g 0)) else 0 - (nI (v (o + 4 + 6 * p + 1)) - nI (g 0))) = nI (ad (v (o + 4 + 6 * p + (1 + 0))) (g 0)) := abs_i (Nat.lt_trans p0 (by decide)) (by omega)
  have e1 : (if 0 ≤ (nI (v (o + 4 + 6 * p + 2)) - nI (g 1)) then (nI (v (o + 4 + 6 * p + 2)) - nI (g 1)) else 0 - (nI (v (o + 4 + 6 * p + 2)) - nI (g 1))) = nI (ad (v (o + 4 + 6 * p + (1 + 1))) (g 1)) := abs_i (Nat.lt_trans p1 (by decide)) (by omega)
  have e2 : (if 0 ≤ (nI (v (o + 4 + 6 * p + 3)) - nI (g 2)) then (nI (v (o + 4 + 6 * p + 3)) - nI (g 2)) else 0 - (nI (v (o + 4 + 6 * p + 3)) - nI (g 2))) = nI (ad (v (o + 4 + 6 * p + (1 + 2))) (g 2)) := abs_i (Nat.lt_trans p2 (by decide)) (by omega)
  have i := i39 h
  rw [C_X4_farOf]
  simp only [z_fI i, s2, Option.bind_some, f2, f3, f4, g0, g1, g2, e0, e1, e2, nI_l (Nat.lt_trans a0 (by decide : 2 ^ 20 < 2 ^ 31)), nI_l (Nat.lt_trans a1 (by decide : 2 ^ 20 < 2 ^ 31)), nI_l (Nat.lt_trans a2 (by decide : 2 ^ 20 < 2 ^ 31)), K_dist s3 a0 a1 a2, z_rL]
  rfl
theorem K_bxG {M : q_M} {r ps sz : Nat} {v : Nat → Nat} {i o : Nat} (w : RWx M r ps sz v o) (s : SW v i o) (hc : okI v i) {g : Nat → Nat} (hg : ∀ a, a < 3 → g a < 2 ^ 20) {k a : Nat} (hk : k < v (o + 3)) (ha : a < 3) : q_CL 42 [.inr (.inr (some r)), .inl (nI (psm v o k)), .inl (nI (v (o + 1804 + k))), .inl (nI a), .inl (nI (g a))] M = some (some (.inr (.inl (lN (ouv (g a) (lwP v o (psm v o k) a (v (o + 1804 + k))) (hwP v o (psm v o k) a (v (o + 1804 + k))))))), M) := by
  have z1 := (s.2.2.2.1 k hk).1
  have kl := K_least w s.1 (f := psm v o k) (n := v (o + 1804 + k)) z1 (s.pn hk) ha (s.pb hc ha)
  have kg := K_greatest w s.1 (f := psm v o k) (n := v (o + 1804 + k)) z1 (s.pn hk) ha (s.pb hc ha)
  obtain ⟨b1, b2⟩ := (bxF_b s hc hg (wy := 0) hk).1 a ha
  have b3 := hg a ha
  rw [C_X4_boxGap]
  simp only [w.sel, Option.bind_some, kl, z_rI, kg]
  unfold ouv
  generalize lwP v o (psm v o k) a (v (o + 1804 + k)) = lo at *
  generalize hwP v o (psm v o k) a (v (o + 1804 + k)) = hi at *
  by_cases c1 : lo ≤ g a
  · rw [if_pos (nI_le c1 (by omega)), if_pos c1]
    by_cases c2 : g a ≤ hi
    · rw [if_pos c2]
      have : ¬ nI 0 < nI (g a) - nI hi := by
        by_cases e : g a = hi
        · rw [e, pk_sub (Nat.le_refl _), Nat.sub_self]; decide +kernel
        · have n := pk_sneg (show hi < 2 ^ 30 by omega) (show g a < hi by omega)
          intro z
          have x1 := Int32.lt_iff_toInt_lt.mp z
          have x2 := Int32.lt_iff_toInt_lt.mp n
          rw [nI_toInt (by omega)] at x1
          rw [show (0 : Int32) = nI 0 from nI_0.symm, nI_toInt (by omega)] at x2
          omega
      rw [if_neg this, nI_l (by omega)]
    · rw [if_neg c2, pk_sub (by omega), if_pos (nI_lt (by omega) (by omega)), nI_l (by omega)]
  · rw [if_neg (nI_ge (by omega) (by omega)), if_neg c1, pk_sub (by omega), nI_l (by omega)]
/-- boxes are measured -/
def BF (M : q_M) (v : Nat → Nat) (o : Nat) (g : Nat → Nat) (wy P : Nat) : Prop := ∀ k, k < P → gL M 40 k = lN (bxF v o g wy k)
def RD (M : q_M) (rd : Nat → Bool) (P : Nat) : Prop := ∀ k, k < P → gI M 41 k = nI (bN (rd k))
theorem RWx.fc {P : Nat → Prop} {M M1 : q_M} {r ps sz : Nat} {v : Nat → Nat} {o : Nat} (w : RWx M r ps sz v o) (f : FC P M M1) (hP : ∀ a, P a → a < 63 ∧ a ≠ 23) (s1 : ST M r) (s2 : ST M ps) (s3 : ST M sz) : RWx M1 r ps sz v o := w.kp s1 s2 s3 (f.kp hP)
theorem s39_63 : ∀ a, s39 a → a < 63 ∧ a ≠ 23 := fun a z => by unfold s39 at z; omega
theorem K_meas {M0 : q_M} {r ps sz : Nat} {v : Nat → Nat} {i o : Nat} (h0 : SH M0) (w0 : RWx M0 r ps sz v o) (st : ST M0 r ∧ ST M0 ps ∧ ST M0 sz) (s : SW v i o) (hc : okI v i) {g : Nat → Nat} {wy : Nat} (sa0 : SA M0 g wy) : ∃ M1, q_CL 33 [.inr (.inr (some 39)), .inr (.inr (some r))] M0 = some (none, M1) ∧ FC s39 M0 M1 ∧ SA M1 g wy ∧ BF M1 v o g wy (v (o + 3)) ∧ RD M1 (fun _ => false) (v (o + 3)) := by
  have hg : ∀ a, a < 3 → g a < 2 ^ 20 := fun a ha => (sa0.1 a ha).2
  have s1 := s.1
  have s2 := s.2.1
  have k0 : (nI 0) &&& 1 = nI 0 := by decide +kernel
  have key : ∀ n k, k + n = v (o + 3) → ∀ A, FC s39 M0 A → SA A g wy → BF A v o g wy k → RD A (fun _ => false) k → ∀ d4 d5 d6 d7 d8 d9 d10, ∃ M1, q_RL T_X4_measure (4, [some (.inr (.inr (some 39))), some (.inr (.inr (some r))), some (.inl (nI (psm v o k))), some (.inl (nI k)), d4, d5, d6, d7, d8, d9, d10], [], A) = some (none, M1) ∧ FC s39 M0 M1 ∧ SA M1 g wy ∧ BF M1 v o g wy (v (o + 3)) ∧ RD M1 (fun _ => false) (v (o + 3)) := by
    intro n
    induction n with
    | zero =>
      intro k hk A f sa bf rd d4 d5 d6 d7 d8 d9 d10
      have w := w0.fc f s39_63 st.1 st.2.1 st.2.2
      have ek : k = v (o + 3) := by omega
      refine ⟨A, ?_, f, sa, by rw [← ek]; exact bf, by rw [← ek]; exact rd⟩
      rw [E_X4_measure_4]
      simp only [Option.bind_some, w.f3]
      rw [if_pos (nI_le (by omega) (by omega))]
    | succ n ih =>
      intro k hk A f sa bf rd d4 d5 d6 d7 d8 d9 d10
      have w := w0.fc f s39_63 st.1 st.2.1 st.2.2
      have h := f.sh h0
      have i := i39 h
      have hk3 : k < v (o + 3) := by omega
      obtain ⟨q1, q2⟩ := bxF_b s hc hg (wy := wy) hk3
      have ob : ∀ a, a < 3 → ouv (g a) (lwP v o (psm v o k) a (v (o + 1804 + k))) (hwP v o (psm v o k) a (v (o + 1804 + k))) < 2 ^ 20 := fun a ha => by
        have := q1 a ha
        have := hg a ha
        unfold ouv
        repeat' split
        all_goals omega
      have B := fun a (ha : a < 3) => K_bxG w s hc hg hk3 ha
      have g0 := (sa.1 0 (by omega)).1
      have g1 := (sa.1 1 (by omega)).1
      have g2 := (sa.1 2 (by omega)).1
      have fB : FC s39 A (stI (stL A 40 k (lN (bxF v o g wy k))) 41 k (nI 0)) := ((FC.rf s39 A).sL (Or.inr (Or.inl rfl))).sI (Or.inr (Or.inr rfl))
      have sB : SA (stI (stL A 40 k (lN (bxF v o g wy k))) 41 k (nI 0)) g wy := ⟨fun a ha => ⟨(gI_oth (by omega)).trans (sa.1 a ha).1, (sa.1 a ha).2⟩, (gI_oth (by omega)).trans sa.2.1, sa.2.2⟩
      obtain ⟨M1, u1, u2, u3, u4, u5⟩ := ih (k + 1) (by omega) (stI (stL A 40 k (lN (bxF v o g wy k))) 41 k (nI 0)) (f.tr fB) sB (fun x hx => by
        rw [gL_stI, gL_stL]
        by_cases e : x = k
        · rw [if_pos ⟨rfl, e⟩, e]
        · rw [if_neg (fun z => e z.2)]; exact bf x (by omega)) (fun x hx => by
        rw [gI_stI]
        by_cases e : x = k
        · rw [if_pos ⟨rfl, e⟩]; rfl
        · rw [if_neg (fun z => e z.2)]; exact rd x (by omega)) (some (.inl (nI (v (o + 1804 + k))))) (some (.inr (.inl (lN (ouv (g 0) (lwP v o (psm v o k) 0 (v (o + 1804 + k))) (hwP v o (psm v o k) 0 (v (o + 1804 + k)))))))) none (some (.inr (.inl (lN (ouv (g 1) (lwP v o (psm v o k) 1 (v (o + 1804 + k))) (hwP v o (psm v o k) 1 (v (o + 1804 + k)))))))) none (some (.inr (.inl (lN (ouv (g 2) (lwP v o (psm v o k) 2 (v (o + 1804 + k))) (hwP v o (psm v o k) 2 (v (o + 1804 + k)))))))) none
      refine ⟨M1, ?_, u2, u3, u4, u5⟩
      have D := K_dist (M := A) sa.2.2 (ob 0 (by omega)) (ob 1 (by omega)) (ob 2 (by omega))
      have h1 : SH (stL A 40 k (lN (bxF v o g wy k))) := h
      have ep : psm v o k + v (o + 1804 + k) = psm v o (k + 1) := rfl
      rw [E_X4_measure_4]
      simp only [Option.bind_some, w.f3]
      rw [if_neg (nI_ge (by omega) (by omega))]
      simp only [w.f1, Option.bind_some, w.sz hk3, z_fI i, g0, g1, g2, B 0 (by omega), B 1 (by omega), B 2 (by omega), z_rL, f39 h (show (39, 0, 40) ∈ q_crs by decide), sa.2.1, D, nI_add, ep, nI_1, k0]
      rw [show lN (dst wy (ouv (g 0) (lwP v o (psm v o k) 0 (v (o + 1804 + k))) (hwP v o (psm v o k) 0 (v (o + 1804 + k)))) (ouv (g 1) (lwP v o (psm v o k) 1 (v (o + 1804 + k))) (hwP v o (psm v o k) 1 (v (o + 1804 + k)))) (ouv (g 2) (lwP v o (psm v o k) 2 (v (o + 1804 + k))) (hwP v o (psm v o k) 2 (v (o + 1804 + k))))) = lN (bxF v o g wy k) from rfl]
      simp only [b40 h (show k < 300 by omega), Option.bind_some, f39 h1 (show (39, 1, 41) ∈ q_crs by decide), b41 h1 (show k < 300 by omega)]
      exact u1
  rw [C_X4_measure]
  exact key (v (o + 3)) 0 (by omega) M0 (FC.rf _ M0) sa0 (fun k hk => by omega) (fun k hk => by omega) none none none none none none none
theorem K_next {M : q_M} {v : Nat → Nat} {o : Nat} {g : Nat → Nat} {wy P : Nat} (h : SH M) (bf : BF M v o g wy P) {rd : Nat → Bool} (rr : RD M rd P) (hP : P ≤ 300) (hb : ∀ k, k < P → bxF v o g wy k < 2 ^ 62) : ∃ b, Fst (kB v o g wy) (fun k => !rd k) P b ∧ q_CL 39 [.inr (.inr (some 39)), .inl (nI P)] M = some (some (.inl (oI b)), M) := by
  rw [C_X4_nextUnread]
  have key : ∀ n k, k + n = P → ∀ b, Fst (kB v o g wy) (fun k => !rd k) k b → ∃ b', Fst (kB v o g wy) (fun k => !rd k) P b' ∧ q_RL T_X4_nextUnread (4, [some (.inr (.inr (some 39))), some (.inl (nI P)), some (.inl (oI b)), some (.inl (nI k))], [], M) = some (some (.inl (oI b')), M) := by
    intro n
    induction n with
    | zero =>
      intro k hk b f
      have ek : k = P := by omega
      subst ek
      refine ⟨b, f, ?_⟩
      rw [E_X4_nextUnread_4, if_pos (nI_le (Nat.le_refl _) (by omega))]
    | succ n ih =>
      intro k hk b f
      rw [E_X4_nextUnread_4, if_neg (nI_ge (by omega) (by omega))]
      simp only [f39 h (show (39, 1, 41) ∈ q_crs by decide), Option.bind_some, a41 h (show k < 300 by omega), rr k (by omega), nI_1]
      cases e : rd k with
      | true =>
        obtain ⟨b', u1, u2⟩ := ih (k + 1) (by omega) b (Fst_no f (by rw [e]; rfl))
        refine ⟨b', u1, ?_⟩
        rw [if_neg (show ¬ nI (bN true) = 0 by decide +kernel)]
        exact u2
      | false =>
        rw [if_pos (show nI (bN false) = 0 by decide +kernel)]
        cases b with
        | none =>
          obtain ⟨b', u1, u2⟩ := ih (k + 1) (by omega) (some k) (Fst_n0 f (by rw [e]; rfl))
          refine ⟨b', u1, ?_⟩
          rw [if_pos (show oI none < 0 by decide)]
          exact u2
        | some b =>
          have hbP := f.1
          rw [if_neg (show ¬ oI (some b) < 0 from nI_pos (by omega))]
          have eb : oI (some b) = nI b := rfl
          simp only [f39 h (show (39, 0, 40) ∈ q_crs by decide), Option.bind_some, a40 h (show k < 300 by omega), bf k (by omega), eb, a40 h (show b < 300 by omega), bf b (by omega), lg_cmp_ge, pk_lLE (Nat.lt_trans (hb b (by omega)) (by decide : 2 ^ 62 < 2 ^ 63)) (Nat.lt_trans (hb k (by omega)) (by decide : 2 ^ 62 < 2 ^ 63))]
          by_cases c : bxF v o g wy b ≤ bxF v o g wy k
          · obtain ⟨b', u1, u2⟩ := ih (k + 1) (by omega) (some b) (Fst_ge f (by unfold kB; simp only [decide_eq_true_eq]; omega))
            refine ⟨b', u1, ?_⟩
            rw [if_pos c]
            exact u2
          · obtain ⟨b', u1, u2⟩ := ih (k + 1) (by omega) (some k) (Fst_lt (kB_o (m := P)) (by omega) f (by rw [e]; rfl) (by unfold kB; simp only [decide_eq_true_eq]; omega))
            refine ⟨b', u1, ?_⟩
            rw [if_neg c]
            exact u2
  exact key P 0 (by omega) none (Fst_0 _ _)
