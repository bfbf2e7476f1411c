/-! ===== THE CLASS: points ===== -/
theorem plI_npI {v : Nat → Nat} {i : Nat} (hc : okI v i) {q : Nat → Nat} (hq : ∀ a, a < 3 → q a < cB (cK v i) ^ cL v i a) : ∀ a, a < 3 → plI v i (npI v i q) a = q a := plc_np (gdI hc) (in0.mpr hq)
theorem wnP_f {v : Nat → Nat} {o : Nat} {lo hi : Nat → Nat} {p a : Nat} (h : wnP v o lo hi p a = false) : ∀ k, wnP v o lo hi p (a + k) = false
  | 0 => h
  | k + 1 => by
    show (wnP v o lo hi p (a + k) && _) = false
    rw [wnP_f h k]; rfl
theorem wnP_in {v : Nat → Nat} {o : Nat} {lo hi : Nat → Nat} {p : Nat} : wnP v o lo hi p 3 = true ↔ ∀ a, a < 3 → lo a ≤ v (o + 4 + 6 * p + (1 + a)) ∧ v (o + 4 + 6 * p + (1 + a)) ≤ hi a := by
  unfold wnP wnP wnP wnP
  simp only [Bool.and_eq_true, decide_eq_true_eq, Bool.true_and]
  constructor
  · intro h a ha
    rcases (show a = 0 ∨ a = 1 ∨ a = 2 by omega) with rfl | rfl | rfl
    · exact h.1.1
    · exact h.1.2
    · exact h.2
  · intro h
    exact ⟨⟨h 0 (by omega), h 1 (by omega)⟩, h 2 (by omega)⟩
theorem K_inW {M : q_M} (h : SH M) {lo hi : Nat → Nat} (wv : WV M lo hi) (hb2 : ∀ a, a < 3 → lo a ≤ hi a ∧ hi a < 2 ^ 20) {c : Nat} {v : Nat → Nat} {o p : Nat} (pc : PO M c (fun t => v (o + 4 + 6 * p + t))) (hb : ∀ a, a < 3 → v (o + 4 + 6 * p + (1 + a)) < 2 ^ 20) : q_CL 71 [.inr (.inr (some 25)), .inr (.inr (some c))] M = some (some (.inl (nI (bN (wnP v o lo hi p 3)))), M) := by
  have o0 : (nI 0 = 0 ∨ nI 0 = 1) := Or.inl nI_0
  have o1 : (nI 1 = 0 ∨ nI 1 = 1) := Or.inr rfl
  rw [C_X10_isInWindow]
  have key : ∀ n a, a + n = 3 → wnP v o lo hi p a = true → ∀ d3, q_RL T_X10_isInWindow (2, [some (.inr (.inr (some 25))), some (.inr (.inr (some c))), some (.inl (nI a)), d3], [], M) = some (some (.inl (nI (bN (wnP v o lo hi p 3)))), M) := by
    intro n
    induction n with
    | zero =>
      intro a ha t d3
      have e : a = 3 := by omega
      subst e
      rw [E_X10_isInWindow_2, if_pos (nI_le (Nat.le_refl _) (by omega)), if_pos o1, t]
      rfl
    | succ n ih =>
      intro a ha t d3
      have ha3 : a < 3 := by omega
      have b := hb a ha3
      have c2 := hb2 a ha3
      have po : q_CL 15 [.inr (.inr (some c)), .inl (nI a)] M = some (some (.inl (nI (v (o + 4 + 6 * p + (1 + a))))), M) := pc.on ha3
      have wn : wnP v o lo hi p (a + 1) = decide (lo a ≤ v (o + 4 + 6 * p + (1 + a)) ∧ v (o + 4 + 6 * p + (1 + a)) ≤ hi a) := by
        show (wnP v o lo hi p a && _) = _
        rw [t, Bool.true_and]
      have a37 : q_aI M 14 37 (nI a) = some (nI (lo a)) := (y_aI h (by omega) (by omega) rfl ha3 (by decide)).trans (congrArg some (wv a ha3).1)
      have a38 : q_aI M 14 38 (nI a) = some (nI (hi a)) := (y_aI h (by omega) (by omega) rfl ha3 (by decide)).trans (congrArg some (wv a ha3).2)
      have f5 : q_fR M 10 25 5 = some (some 37) := y_fR h (by omega) rfl (by decide)
      have f6 : q_fR M 10 25 6 = some (some 38) := y_fR h (by omega) rfl (by decide)
      have no : wnP v o lo hi p (a + 1) = false → nI (bN (wnP v o lo hi p 3)) = nI 0 := fun z => by
        have := wnP_f z n
        rw [show a + 1 + n = 3 by omega] at this
        rw [this]; rfl
      rw [E_X10_isInWindow_2, if_neg (nI_ge (by omega) (by omega))]
      simp only [Option.bind_some, z_sel pc.1, po, z_rI, f5, a37, f6, a38, if_pos o0, nI_1]
      by_cases c1 : v (o + 4 + 6 * p + (1 + a)) < lo a
      · rw [if_pos (nI_lt c1 (by omega)), no (by rw [wn, decide_eq_false_iff_not]; omega)]
      · rw [if_neg (nI_nlt (by omega) (by omega))]
        by_cases c3 : v (o + 4 + 6 * p + (1 + a)) ≤ hi a
        · rw [if_pos (nI_le c3 (by omega))]
          exact ih (a + 1) (by omega) (by rw [wn, decide_eq_true_eq]; omega) _
        · rw [if_neg (nI_ge (by omega) (by omega)), no (by rw [wn, decide_eq_false_iff_not]; omega)]
  exact key 3 0 (by omega) rfl none
/-- points in the window so far -/
def PQ (M : q_M) (v : Nat → Nat) (o : Nat) (lo hi : Nat → Nat) (y rd : Nat) : Prop := FQ M 9 10 11 (cnt (fun p => wnP v o lo hi p 3) y) (fun r t => v (o + 4 + 6 * elt kI (v (o + 2)) (fun p => wnP v o lo hi p 3) r + t)) (fun _ => 0) rd
theorem PQ_no {M : q_M} {v : Nat → Nat} {o : Nat} {lo hi : Nat → Nat} {y rd : Nat} (q : PQ M v o lo hi y rd) (e : wnP v o lo hi y 3 = false) : PQ M v o lo hi (y + 1) rd := by
  have : cnt (fun p => wnP v o lo hi p 3) (y + 1) = cnt (fun p => wnP v o lo hi p 3) y := by
    show cnt _ y + (if wnP v o lo hi y 3 = true then 1 else 0) = _
    rw [e]; rfl
  unfold PQ at q ⊢
  rw [this]
  exact q
theorem K_apW {M0 : q_M} {r ps sz : Nat} {v : Nat → Nat} {ic o : Nat} {lo hi : Nat → Nat} (h0 : SH M0) (w0 : RWx M0 r ps sz v o) (st : ST M0 r ∧ ST M0 ps ∧ ST M0 sz) (sw : SW v ic o) (hc : okI v ic) (wv0 : WV M0 lo hi) (hb2 : ∀ a, a < 3 → lo a ≤ hi a ∧ hi a < 2 ^ 20) {a b rd : Nat} (hab : a ≤ b) (hb : b ≤ v (o + 2)) (q0 : PQ M0 v o lo hi a rd) : ∃ M1, q_CL 117 [.inr (.inr (some 1)), .inr (.inr (some r)), .inl (nI a), .inl (nI b)] M0 = some (none, M1) ∧ FC (fdc 9 10 11) M0 M1 ∧ PQ M1 v o lo hi b rd := by
  have s1 := sw.1
  have s0 := FS_now h0
  have P63 : ∀ a, fdc 9 10 11 a → a < 63 ∧ a ≠ 23 := fun a z => by rcases z with z | z | z <;> omega
  rw [C_X11_appendInWindow]
  have key : ∀ n y, y + n = b → ∀ A, FC (fdc 9 10 11) M0 A → PQ A v o lo hi y rd → ∀ d5, ∃ M1, q_RL T_X11_appendInWindow (3, [some (.inr (.inr (some 1))), some (.inr (.inr (some r))), some (.inl (nI a)), some (.inl (nI b)), some (.inl (nI y)), d5], [], A) = some (none, M1) ∧ FC (fdc 9 10 11) M0 M1 ∧ PQ M1 v o lo hi b rd := by
    intro n
    induction n with
    | zero =>
      intro y hy A fA qA d5
      have ey : y = b := by omega
      subst ey
      refine ⟨A, ?_, fA, qA⟩
      rw [E_X11_appendInWindow_3, if_pos (nI_le (Nat.le_refl _) (by omega))]
    | succ n ih =>
      intro y hy A fA qA d5
      have hA := fA.sh h0
      have w := w0.fc fA P63 st.1 st.2.1 st.2.2
      have wv : WV A lo hi := fun x hx => ⟨((fA.2.2.2.1 37 x (by unfold fdc; omega)).1).trans (wv0 x hx).1, ((fA.2.2.2.1 38 x (by unfold fdc; omega)).1).trans (wv0 x hx).2⟩
      have hy2 : y < v (o + 2) := by omega
      obtain ⟨c, c1, c2⟩ := w.pt hy2
      have iw := K_inW hA wv hb2 c2 (fun a ha => sw.pt hc hy2 ha)
      rw [E_X11_appendInWindow_3, if_neg (nI_ge (by omega) (by omega))]
      simp only [Option.bind_some, w.f0, c1, c_now hA (show (1, 4, 25) ∈ q_crs by decide), w_sel hA, iw, z_rI, nI_1]
      cases e : wnP v o lo hi y 3 with
      | false =>
        rw [if_pos (show nI (bN false) = 0 by decide +kernel)]
        exact ih (y + 1) (by omega) A fA (PQ_no qA e) _
      | true =>
        rw [if_neg (show ¬ nI (bN true) = 0 by decide +kernel)]
        have cl : cnt (fun p => wnP v o lo hi p 3) y ≤ y := cnt_m _ _
        obtain ⟨B, b1, b2, b3, b4⟩ := K_fapp (x := 0) hA (FS_now hA) qA (by omega) c2
        have en : cnt (fun p => wnP v o lo hi p 3) (y + 1) = cnt (fun p => wnP v o lo hi p 3) y + 1 := by
          show cnt _ y + (if wnP v o lo hi y 3 = true then 1 else 0) = _
          rw [e]; rfl
        have el : elt kI (v (o + 2)) (fun p => wnP v o lo hi p 3) (cnt (fun p => wnP v o lo hi p 3) y) = y := elt_at (kI_o _) hy2 e (rk_kI (m := v (o + 2)) (v (o + 2)) (by omega))
        have qB : PQ B v o lo hi (y + 1) rd := by
          unfold PQ
          rw [en]
          refine b3.cg (fun r' hr => ?_)
          unfold snP snD
          by_cases z : r' = cnt (fun p => wnP v o lo hi p 3) y
          · rw [if_pos z, if_pos z, z, el]; exact ⟨rfl, rfl⟩
          · rw [if_neg z, if_neg z]; exact ⟨rfl, rfl⟩
        obtain ⟨M1, u1, u2⟩ := ih (y + 1) (by omega) B (fA.tr b2) qB (some (.inr (.inr (some c))))
        refine ⟨M1, ?_, u2⟩
        simp only [c_now hA (show (1, 0, 2) ∈ q_crs by decide), s_now hA (show (2, 5, 9) ∈ q_crs by decide), Option.bind_some, z_sel (FS_now hA).1, b1, z_rV]
        exact u1
  exact key (b - a) a (by omega) M0 (FC.rf _ M0) q0 none
/-- a page where no number of the window lies holds no point of it -/
theorem no_hit {v : Nat → Nat} {i o : Nat} (hc : okI v i) (sw : SW v i o) {lo hi : Nat → Nat} {k p : Nat} (hk : k < v (o + 3)) (hp : psm v o k ≤ p ∧ p < psm v o (k + 1)) (n : ¬ hitP v i o lo hi k) : wnP v o lo hi p 3 = false := by
  cases e : wnP v o lo hi p 3 with
  | false => rfl
  | true =>
    exfalso
    have pn := sw.pn hk
    have ep : psm v o (k + 1) = psm v o k + v (o + 1804 + k) := rfl
    have hp2 : p < v (o + 2) := by omega
    obtain ⟨_, _, p3, p4⟩ := sw.2.2.2.2.1 p hp2
    have mono : ∀ a b, a ≤ b → b < v (o + 2) → v (o + 4 + 6 * a + 5) ≤ v (o + 4 + 6 * b + 5) := fun a b hab hb => by
      by_cases e : a = b
      · rw [e]; exact Nat.le_refl _
      · have := (sw.2.2.2.2.2 a b (by omega) hb).2
        unfold befP bef at this
        omega
    refine n ⟨v (o + 4 + 6 * p + 5), mono _ _ hp.1 hp2, mono _ _ (by omega) (by omega), Or.inl ⟨rfl, fun a ha => ?_⟩⟩
    rw [p4, plI_npI hc p3 a ha]
    exact wnP_in.mp e a ha
/-- the walk stands at a window -/
def WR (M : q_M) (c : Nat) (v : Nat → Nat) (i : Nat) (lo hi : Nat → Nat) : Prop := WK M c (cK v i) (cD v i) (cL v i) i ∧ WD M (cmI v i) 0 0 ∧ WV M lo hi
theorem WR.wf {M M1 : q_M} {c : Nat} {v : Nat → Nat} {i : Nat} {lo hi : Nat → Nat} (f : WF M M1) (w : WR M c v i lo hi) : WR M1 c v i lo hi := ⟨f.wk w.1, f.w0 w.2.1, f.wv w.2.2⟩
theorem WR.fc {P : Nat → Prop} {M M1 : q_M} {c : Nat} {v : Nat → Nat} {i : Nat} {lo hi : Nat → Nat} (f : FC P M M1) (hP : ∀ a, P a → a < 63 ∧ a ≠ 23 ∧ ¬ wsc a) (w : WR M c v i lo hi) : WR M1 c v i lo hi := by
  have nw : ∀ a, wsc a → ¬ P a := fun a z y => (hP a y).2.2 z
  obtain ⟨⟨k1, k2, k3, k4⟩, ⟨d1, d2, d3⟩, w3⟩ := w
  have n25 := nw 25 (by unfold wsc; omega)
  refine ⟨⟨f.sh k1, k2.kp (f.kp (fun a z => ⟨(hP a z).1, (hP a z).2.1⟩)), ((f.2.2.2.1 25 7 n25).2.2).trans k3, ((f.2.2.2.1 25 8 n25).1).trans k4⟩, ⟨fun a ha => ⟨((f.2.2.2.1 (27 + a) 0 (nw _ (by unfold wsc; omega))).1).trans (d1 a ha).1, ((f.2.2.2.1 (31 + a) 0 (nw _ (by unfold wsc; omega))).1).trans (d1 a ha).2⟩, ((f.2.2.2.1 34 0 (nw _ (by unfold wsc; omega))).1).trans d2, ((f.2.2.2.1 35 0 (nw _ (by unfold wsc; omega))).2.1).trans d3⟩, fun a ha => ⟨((f.2.2.2.1 37 a (nw _ (by unfold wsc; omega))).1).trans (w3 a ha).1, ((f.2.2.2.1 38 a (nw _ (by unfold wsc; omega))).1).trans (w3 a ha).2⟩⟩
