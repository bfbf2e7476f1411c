/-! ===== THE CLASS: a state is copied ===== -/
def stT : List Nat := [8, 17, 20, 14, 7, 15, 15, 1, 18, 15, 14, 15, 15, 5, 19, 5, 19, 5, 19, 5, 19]
def stN : List Nat := [9, 8, 4, 6, 4, 200, 200, 4, 300, 300, 8, 8, 8, 4, 6, 4, 6, 4, 6, 4, 6]
def stF : List (Nat × Nat × Nat) := [(0, 0, 1), (0, 2, 2), (0, 3, 3), (0, 4, 4), (0, 5, 7), (0, 6, 10), (0, 7, 11), (0, 8, 12), (2, 0, 13), (2, 1, 15), (2, 2, 17), (2, 3, 19), (4, 0, 5), (4, 1, 6), (7, 0, 8), (7, 1, 9), (13, 2, 14), (15, 2, 16), (17, 2, 18), (19, 2, 20)]
/-- the shape of a state whose cells begin at b -/
def SB (M : q_M) (b : Nat) : Prop := (∀ x, x < 21 → M.1 (b + x) = stT.getD x 0) ∧ (∀ x, x < 21 → M.2.1 (b + x) = stN.getD x 0) ∧ ∀ e ∈ stF, gR M (b + e.1) e.2.1 = some (b + e.2.2)
theorem SB_2 {M : q_M} (h : SH M) : SB M 2 := by
  refine ⟨fun x hx => ?_, fun x hx => ?_, fun e he => ?_⟩
  · rw [h.1 (2 + x) (by omega)]
    exact (show ∀ x, x < 21 → q_tgs.getD (2 + x) 0 = stT.getD x 0 by decide) x hx
  · rw [h.2.1 (2 + x) (by omega) (by omega)]
    exact (show ∀ x, x < 21 → q_lns.getD (2 + x) 0 = stN.getD x 0 by decide) x hx
  · exact h.cr (2 + e.1, e.2.1, 2 + e.2.2) ((show ∀ e ∈ stF, (2 + e.1, e.2.1, 2 + e.2.2) ∈ q_crs by decide) e he)
theorem SB.tg {M : q_M} {b : Nat} (s : SB M b) {x t : Nat} (hx : x < 21) (ht : stT.getD x 0 = t) : M.1 (b + x) = t := (s.1 x hx).trans ht
theorem SB.ln {M : q_M} {b : Nat} (s : SB M b) {x t : Nat} (hx : x < 21) (ht : stN.getD x 0 = t) : M.2.1 (b + x) = t := (s.2.1 x hx).trans ht
theorem SB.rf {M : q_M} {b : Nat} (s : SB M b) {x k y : Nat} (e : (x, k, y) ∈ stF) : gR M (b + x) k = some (b + y) := s.2.2 _ e
theorem SB.f0 {M : q_M} {b : Nat} (s : SB M b) {k y : Nat} (e : (0, k, y) ∈ stF) : q_fR M 8 b k = some (some (b + y)) := (z_fR (by rw [show M.1 b = 8 from s.tg (x := 0) (by omega) rfl]; rfl)).trans (congrArg some (s.rf e))
theorem SB.t0 {M : q_M} {b : Nat} (s : SB M b) : q_isT 8 (M.1 b) = true := by rw [show M.1 b = 8 from s.tg (x := 0) (by omega) rfl]; rfl
theorem SB.sel {M : q_M} {b : Nat} (s : SB M b) {y : Nat} : q_sel M [(8, y)] b = some y := z_sel (s.tg (x := 0) (by omega) rfl)
theorem st_j {j : Nat} (hj : j < 4) : stT.getD (13 + 2 * j) 0 = 5 ∧ stT.getD (14 + 2 * j) 0 = 19 ∧ stN.getD (14 + 2 * j) 0 = 6 ∧ (2, j, 13 + 2 * j) ∈ stF ∧ (13 + 2 * j, 2, 14 + 2 * j) ∈ stF := by
  rcases (show j = 0 ∨ j = 1 ∨ j = 2 ∨ j = 3 by omega) with rfl | rfl | rfl | rfl <;> decide
theorem SB.sj {M : q_M} {b : Nat} (s : SB M b) {j : Nat} (hj : j < 4) : M.1 (b + 13 + 2 * j) = 5 ∧ M.1 (b + 14 + 2 * j) = 19 ∧ M.2.1 (b + 14 + 2 * j) = 6 ∧ gR M (b + 2) j = some (b + 13 + 2 * j) ∧ gR M (b + 13 + 2 * j) 2 = some (b + 14 + 2 * j) := by
  obtain ⟨a1, a2, a3, a4, a5⟩ := st_j hj
  have e1 : b + (13 + 2 * j) = b + 13 + 2 * j := by omega
  have e2 : b + (14 + 2 * j) = b + 14 + 2 * j := by omega
  have b1 := s.tg (x := 13 + 2 * j) (by omega) a1
  have b2 := s.tg (x := 14 + 2 * j) (by omega) a2
  have b3 := s.ln (x := 14 + 2 * j) (by omega) a3
  have b4 := s.rf a4
  have b5 := s.rf a5
  rw [e1] at b1 b4 b5
  rw [e2] at b2 b3 b5
  exact ⟨b1, b2, b3, b4, b5⟩
theorem SB.aj {M : q_M} {b : Nat} (s : SB M b) {j : Nat} (hj : j < 4) : q_aR M (b + 2) (nI j) = some (some (b + 13 + 2 * j)) := by
  rw [z_aR (n := 4) (by rw [s.tg (x := 2) (by omega) rfl]; decide) (s.ln (x := 2) (by omega) rfl) hj (by omega), (s.sj hj).2.2.2.1]
def stR_ (d a : Nat) : Prop := d ≤ a ∧ a < d + 21
/-- only a state's own cells, and none of its fixed references -/
def FD (d : Nat) (M A : q_M) : Prop := FC (stR_ d) M A ∧ ∀ e ∈ stF, gR A (d + e.1) e.2.1 = gR M (d + e.1) e.2.1
theorem FD.rfl' (d : Nat) (M : q_M) : FD d M M := ⟨FC.rf _ M, fun _ _ => rfl⟩
theorem FD.tr {d : Nat} {M A B : q_M} (a : FD d M A) (b : FD d A B) : FD d M B := ⟨a.1.tr b.1, fun e he => (b.2 e he).trans (a.2 e he)⟩
theorem FD.sb {d : Nat} {M A : q_M} (f : FD d M A) (s : SB M d) : SB A d := ⟨fun x hx => by rw [f.1.1]; exact s.1 x hx, fun x hx => by rw [f.1.2.1]; exact s.2.1 x hx, fun e he => (f.2 e he).trans (s.2.2 e he)⟩
theorem FC.so {P : Nat → Prop} {M A : q_M} (f : FC P M A) {b : Nat} (n : ∀ x, x < 21 → ¬ P (b + x)) (s : SB M b) : SB A b := ⟨fun x hx => by rw [f.1]; exact s.1 x hx, fun x hx => by rw [f.2.1]; exact s.2.1 x hx, fun e he => ((f.2.2.2.1 (b + e.1) e.2.1 (n e.1 ((show ∀ e ∈ stF, e.1 < 21 by decide) e he))).2.2).trans (s.2.2 e he)⟩
/-- a frame within a state that keeps all references but those of some cells without fixed ones -/
theorem FD.of {d : Nat} {P : Nat → Prop} {M A : q_M} (f : FC P M A) (h : ∀ a, P a → stR_ d a) (r : ∀ e ∈ stF, gR A (d + e.1) e.2.1 = gR M (d + e.1) e.2.1) : FD d M A := ⟨f.wk h, r⟩
theorem isc_st {d x k : Nat} (hD : d = 2 ∨ 63 ≤ d) (hx : x < 21) (n : ∀ e ∈ stF, ¬ (e.1 = x ∧ e.2.1 = k)) : q_isc (d + x) k = false := by
  rcases hD with rfl | hD
  · cases c : q_isc (2 + x) k with
    | false => rfl
    | true =>
      exfalso
      unfold q_isc at c
      rw [List.any_eq_true] at c
      obtain ⟨e, he, q⟩ := c
      rw [Bool.and_eq_true] at q
      have q1 := Nat.eq_of_beq_eq_true q.1
      have q2 := Nat.eq_of_beq_eq_true q.2
      have key : ∀ e ∈ q_crs, 2 ≤ e.1 → e.1 < 23 → ∃ g ∈ stF, g.1 = e.1 - 2 ∧ g.2.1 = e.2.1 := by decide
      obtain ⟨g, hg, g1, g2⟩ := key e he (by omega) (by omega)
      exact n g hg ⟨by omega, by omega⟩
  · exact isc_63 (by omega)
theorem FC.kp2 {P : Nat → Prop} {M M1 : q_M} (f : FC P M M1) (h : ∀ a, P a → ¬ ST M a ∧ a ≠ 23) : KP M M1 := by
  obtain ⟨a, b, c, d, e⟩ := f
  have n : gN M1 = gN M := by unfold gN; rw [c]
  refine ⟨fun x hx => ?_, fun x hx => ?_⟩
  · obtain ⟨h1, h2, h3⟩ := hx
    refine ⟨h1, by rw [n]; exact h2, fun p b hp hb => ?_⟩
    rw [(d 23 p (fun z => (h 23 z).2 rfl)).2.2] at hb
    exact h3 p b hp hb
  · exact ⟨by rw [a], by rw [b], fun k => d x k (fun z => (h x z).1 hx)⟩
/-! a shelf is copied -/
theorem K_cpS {M : q_M} {a pa c pc n : Nat} (ta : M.1 a = 5) (tp : M.1 pa = 19) (lp : M.2.1 pa = 6) (ra : gR M a 2 = some pa) (tc : M.1 c = 5) (tq : M.1 pc = 19) (lq : M.2.1 pc = 6) (rc : gR M c 2 = some pc) (ac : a ≠ c) (pq : pa ≠ pc) (i0 : q_isc a 0 = false) (i1 : q_isc a 1 = false) (ip : ∀ k, q_isc pa k = false) (hn : n ≤ 6) (i3 : gI M c 3 = nI n) (hr : ∀ k, k < n → ∃ r, gR M pc k = some r ∧ M.1 r = 3) : ∃ A, q_CL 48 [.inr (.inr (some a)), .inr (.inr (some c))] M = some (none, A) ∧ FC (fun x => x = a ∨ x = pa) M A ∧ gR A a 2 = some pa ∧ gR A a 0 = gR M c 0 ∧ gR A a 1 = gR M c 1 ∧ gI A a 3 = nI n ∧ ∀ k, k < n → gR A pa k = gR M pc k := by
  have ha : q_isT 5 (M.1 a) = true := by rw [ta]; rfl
  have hc : q_isT 5 (M.1 c) = true := by rw [tc]; rfl
  have dap : a ≠ pa := fun z => by rw [z, tp] at ta; cases ta
  have dcp : c ≠ pa := fun z => by rw [z, tp] at tc; cases tc
  have dqa : pc ≠ a := fun z => by rw [z, ta] at tq; cases tq
  have loop : ∀ m k, k + m = n → ∀ A, FC (fun x => x = a ∨ x = pa) M A → gR A a 2 = some pa → gR A a 0 = gR M c 0 → gR A a 1 = gR M c 1 → gI A a 3 = nI n → (∀ x, x < k → gR A pa x = gR M pc x) → ∃ B, q_RL T_X5_copyFrom (26, [some (.inr (.inr (some a))), some (.inr (.inr (some c))), some (.inl (nI k))], [], A) = some (none, B) ∧ FC (fun x => x = a ∨ x = pa) M B ∧ gR B a 2 = some pa ∧ gR B a 0 = gR M c 0 ∧ gR B a 1 = gR M c 1 ∧ gI B a 3 = nI n ∧ ∀ x, x < n → gR B pa x = gR M pc x := by
    intro m
    induction m with
    | zero =>
      intro k hk A f r2 r0 r1 g3 dn
      rw [Nat.add_zero] at hk
      subst hk
      have hA : q_isT 5 (A.1 a) = true := by rw [f.1]; exact ha
      refine ⟨A, ?_, f, r2, r0, r1, g3, dn⟩
      rw [E_X5_copyFrom_26]
      simp only [z_fI hA, g3, Option.bind_some]
      rw [if_pos (nI_le (Nat.le_refl _) (by omega))]
    | succ m ih =>
      intro k hk A f r2 r0 r1 g3 dn
      have hA : q_isT 5 (A.1 a) = true := by rw [f.1]; exact ha
      have hC : q_isT 5 (A.1 c) = true := by rw [f.1]; exact hc
      have rcA : gR A c 2 = some pc := (f.2.2.2.1 c 2 (by omega)).2.2.trans rc
      obtain ⟨r, e1, e2⟩ := hr k (by omega)
      have e1A : gR A pc k = some r := (f.2.2.2.1 pc k (by omega)).2.2.trans e1
      have may : q_may A (A.1 pa) (some r) = true := by rw [f.1, tp]; show Nat.beq (A.1 r) 3 = true; rw [f.1, e2]; rfl
      have tpA : A.1 pa = 19 := by rw [f.1]; exact tp
      obtain ⟨B, b1, b2⟩ := ih (k + 1) (by omega) (stR A pa k (some r)) (f.sR (Or.inr rfl) (ip k)) (by rw [gR_stR, if_neg (by omega)]; exact r2) (by rw [gR_stR, if_neg (by omega)]; exact r0) (by rw [gR_stR, if_neg (by omega)]; exact r1) g3 (fun x hx => by
        rw [gR_stR]
        by_cases z : x = k
        · rw [if_pos ⟨rfl, z⟩, z, e1]
        · rw [if_neg (by omega)]; exact dn x (by omega))
      refine ⟨B, ?_, b2⟩
      rw [E_X5_copyFrom_26]
      simp only [z_fI hA, g3, Option.bind_some]
      rw [if_neg (nI_ge (by omega) (by omega))]
      simp only [z_fR hA, r2, Option.bind_some, z_fR hC, rcA, z_aR (M := A) (a := pc) (k := k) (n := 6) (by rw [f.1, tq]; decide) (by rw [f.2.1]; exact lq) (by omega) (by omega), e1A, z_bR (M := A) (a := pa) (k := k) (n := 6) (v := some r) ⟨by omega, by omega, may⟩ (by rw [f.2.1]; exact lp) (by omega) (by omega), nI_1]
      exact b1
  have f0 : FC (fun x => x = a ∨ x = pa) M (stI (stR (stR M a 0 (gR M c 0)) a 1 (gR M c 1)) a 3 (nI n)) := (((FC.rf _ M).sR (Or.inl rfl) i0).sR (Or.inl rfl) i1).sI (Or.inl rfl)
  obtain ⟨B, b1, b2⟩ := loop n 0 (by omega) (stI (stR (stR M a 0 (gR M c 0)) a 1 (gR M c 1)) a 3 (nI n)) f0 (by rw [gR_stI, gR_stR, if_neg (by omega), gR_stR, if_neg (by omega)]; exact ra) (by rw [gR_stI, gR_stR, if_neg (by omega), gR_stR, if_pos ⟨rfl, rfl⟩]) (by rw [gR_stI, gR_stR, if_pos ⟨rfl, rfl⟩]) (by rw [gI_stI, if_pos ⟨rfl, rfl⟩]) (fun x hx => by omega)
  refine ⟨B, ?_, b2⟩
  have hA1 : q_isT 5 ((stR M a 0 (gR M c 0)).1 a) = true := ha
  have hC1 : q_isT 5 ((stR M a 0 (gR M c 0)).1 c) = true := hc
  have hA2 : q_isT 5 ((stR (stR M a 0 (gR M c 0)) a 1 (gR M c 1)).1 a) = true := ha
  have hC2 : q_isT 5 ((stR (stR M a 0 (gR M c 0)) a 1 (gR M c 1)).1 c) = true := hc
  have e1 : gR (stR M a 0 (gR M c 0)) c 1 = gR M c 1 := by rw [gR_stR, if_neg (by omega)]
  have e3 : gI (stR (stR M a 0 (gR M c 0)) a 1 (gR M c 1)) c 3 = nI n := i3
  rw [C_X5_copyFrom]
  simp only [Option.bind_some, z_fR hc, z_sR ha, z_fR hC1, e1, z_sR hA1, z_fI hC2, e3, z_sI hA2]
  exact b1
/-! finds are copied -/
theorem K_cpF {M : q_M} {a wa fa c wc fc n : Nat} (ta : M.1 a = 1) (tw : M.1 wa = 18) (lw : M.2.1 wa = 300) (tf : M.1 fa = 15) (lf : M.2.1 fa = 300) (r0 : gR M a 0 = some wa) (r1 : gR M a 1 = some fa) (tc : M.1 c = 1) (tv : M.1 wc = 18) (lv : M.2.1 wc = 300) (tg : M.1 fc = 15) (lg : M.2.1 fc = 300) (s0 : gR M c 0 = some wc) (s1 : gR M c 1 = some fc) (ac : a ≠ c) (wv : wa ≠ wc) (fg : fa ≠ fc) (iw : ∀ k, q_isc wa k = false) (hn : n ≤ 300) (i2 : gI M c 2 = nI n) (hr : ∀ k, k < n → ∃ r, gR M wc k = some r ∧ M.1 r = 2) : ∃ A, q_CL 12 [.inr (.inr (some a)), .inr (.inr (some c))] M = some (none, A) ∧ FC (fun x => x = a ∨ x = wa ∨ x = fa) M A ∧ gR A a 0 = some wa ∧ gR A a 1 = some fa ∧ gI A a 2 = nI n ∧ gI A a 3 = gI M c 3 ∧ ∀ k, k < n → gR A wa k = gR M wc k ∧ gL A fa k = gL M fc k := by
  have ha : q_isT 1 (M.1 a) = true := by rw [ta]; rfl
  have hc : q_isT 1 (M.1 c) = true := by rw [tc]; rfl
  have d1 : a ≠ wa := fun z => by rw [z, tw] at ta; cases ta
  have d2 : a ≠ fa := fun z => by rw [z, tf] at ta; cases ta
  have d3 : wa ≠ fa := fun z => by rw [z, tf] at tw; cases tw
  have d4 : c ≠ wa := fun z => by rw [z, tw] at tc; cases tc
  have d5 : c ≠ fa := fun z => by rw [z, tf] at tc; cases tc
  have d6 : wc ≠ a := fun z => by rw [z, ta] at tv; cases tv
  have d7 : wc ≠ fa := fun z => by rw [z, tf] at tv; cases tv
  have d8 : fc ≠ a := fun z => by rw [z, ta] at tg; cases tg
  have d9 : fc ≠ wa := fun z => by rw [z, tw] at tg; cases tg
  have loop : ∀ m k, k + m = n → ∀ A, FC (fun x => x = a ∨ x = wa ∨ x = fa) M A → gR A a 0 = some wa → gR A a 1 = some fa → gI A a 2 = nI n → gI A a 3 = gI M c 3 → (∀ x, x < k → gR A wa x = gR M wc x ∧ gL A fa x = gL M fc x) → ∃ B, q_RL T_X1_copyFrom (26, [some (.inr (.inr (some a))), some (.inr (.inr (some c))), some (.inl (nI k))], [], A) = some (none, B) ∧ FC (fun x => x = a ∨ x = wa ∨ x = fa) M B ∧ gR B a 0 = some wa ∧ gR B a 1 = some fa ∧ gI B a 2 = nI n ∧ gI B a 3 = gI M c 3 ∧ ∀ x, x < n → gR B wa x = gR M wc x ∧ gL B fa x = gL M fc x := by
    intro m
    induction m with
    | zero =>
      intro k hk A f q0 q1 g2 g3 dn
      rw [Nat.add_zero] at hk
      subst hk
      have hA : q_isT 1 (A.1 a) = true := by rw [f.1]; exact ha
      refine ⟨A, ?_, f, q0, q1, g2, g3, dn⟩
      rw [E_X1_copyFrom_26]
      simp only [z_fI hA, g2, Option.bind_some]
      rw [if_pos (nI_le (Nat.le_refl _) (by omega))]
    | succ m ih =>
      intro k hk A f q0 q1 g2 g3 dn
      have hA : q_isT 1 (A.1 a) = true := by rw [f.1]; exact ha
      have hC : q_isT 1 (A.1 c) = true := by rw [f.1]; exact hc
      have rcA : gR A c 0 = some wc := (f.2.2.2.1 c 0 (by omega)).2.2.trans s0
      obtain ⟨r, e1, e2⟩ := hr k (by omega)
      have e1A : gR A wc k = some r := (f.2.2.2.1 wc k (by omega)).2.2.trans e1
      have may : q_may A (A.1 wa) (some r) = true := by rw [f.1, tw]; show Nat.beq (A.1 r) 2 = true; rw [f.1, e2]; rfl
      have twA : A.1 wa = 18 := by rw [f.1]; exact tw
      have fB : FC (fun x => x = a ∨ x = wa ∨ x = fa) M (stR A wa k (some r)) := f.sR (Or.inr (Or.inl rfl)) (iw k)
      have hA' : q_isT 1 ((stR A wa k (some r)).1 a) = true := hA
      have hC' : q_isT 1 ((stR A wa k (some r)).1 c) = true := hC
      have q1' : gR (stR A wa k (some r)) a 1 = some fa := by rw [gR_stR, if_neg (by omega)]; exact q1
      have s1' : gR (stR A wa k (some r)) c 1 = some fc := by rw [gR_stR, if_neg (by omega)]; exact (f.2.2.2.1 c 1 (by omega)).2.2.trans s1
      have gl : gL (stR A wa k (some r)) fc k = gL M fc k := (f.2.2.2.1 fc k (by omega)).2.1
      obtain ⟨B, b1, b2⟩ := ih (k + 1) (by omega) (stL (stR A wa k (some r)) fa k (gL M fc k)) (fB.sL (Or.inr (Or.inr rfl))) (by rw [gR_stL, gR_stR, if_neg (by omega)]; exact q0) (by rw [gR_stL, gR_stR, if_neg (by omega)]; exact q1) g2 g3 (fun x hx => by
        rw [gR_stL, gR_stR, gL_stL, gL_stR]
        by_cases z : x = k
        · rw [if_pos ⟨rfl, z⟩, if_pos ⟨rfl, z⟩, z, e1]; exact ⟨rfl, rfl⟩
        · rw [if_neg (by omega), if_neg (by omega)]; exact dn x (by omega))
      refine ⟨B, ?_, b2⟩
      rw [E_X1_copyFrom_26]
      simp only [z_fI hA, g2, Option.bind_some]
      rw [if_neg (nI_ge (by omega) (by omega))]
      simp only [z_fR hA, q0, Option.bind_some, z_fR hC, rcA, z_aR (M := A) (a := wc) (k := k) (n := 300) (by rw [f.1, tv]; decide) (by rw [f.2.1]; exact lv) (by omega) (by omega), e1A, z_bR (M := A) (a := wa) (k := k) (n := 300) (v := some r) ⟨by omega, by omega, may⟩ (by rw [f.2.1]; exact lw) (by omega) (by omega), z_fR hA', q1', z_fR hC', s1', z_aL (M := stR A wa k (some r)) (a := fc) (k := k) (n := 300) (by rw [fB.1]; exact tg) (by rw [fB.2.1]; exact lg) (by omega) (by omega), gl, z_bL (M := stR A wa k (some r)) (a := fa) (k := k) (n := 300) (by rw [fB.1]; exact tf) (by rw [fB.2.1]; exact lf) (by omega) (by omega), nI_1]
      exact b1
  have f0 : FC (fun x => x = a ∨ x = wa ∨ x = fa) M (stI (stI M a 2 (nI n)) a 3 (gI M c 3)) := ((FC.rf _ M).sI (Or.inl rfl)).sI (Or.inl rfl)
  obtain ⟨B, b1, b2⟩ := loop n 0 (by omega) (stI (stI M a 2 (nI n)) a 3 (gI M c 3)) f0 r0 r1 (by rw [gI_stI, if_neg (by omega), gI_stI, if_pos ⟨rfl, rfl⟩]) (by rw [gI_stI, if_pos ⟨rfl, rfl⟩]) (fun x hx => by omega)
  refine ⟨B, ?_, b2⟩
  have hA1 : q_isT 1 ((stI M a 2 (nI n)).1 a) = true := ha
  have hC1 : q_isT 1 ((stI M a 2 (nI n)).1 c) = true := hc
  have ln : q_len M wa = some (nI 300) := by unfold q_len; rw [tw, if_pos (by omega), lw]; rfl
  have e3 : gI (stI M a 2 (nI n)) c 3 = gI M c 3 := by rw [gI_stI, if_neg (by omega)]
  rw [C_X1_copyFrom]
  simp only [Option.bind_some, z_fI hc, i2, z_fR ha, r0, ln, if_neg (nI_nlt hn (show 300 < 2 ^ 31 by omega)), z_sI ha, z_fI hC1, e3, z_sI hA1]
  exact b1
