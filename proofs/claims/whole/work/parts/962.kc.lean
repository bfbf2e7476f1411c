/-! ===== THE CLASS: a step of the walk ===== -/
theorem CO.fc {P : Nat → Prop} {M M1 : q_M} {c K d : Nat} {L : Nat → Nat} {i : Nat} (h : CO M c K d L i) (f : FC P M M1) (hp : ∀ a, P a → a < 63 ∧ a ≠ 23) : CO M1 c K d L i := h.kp (f.kp hp)
theorem wsc_ok (a : Nat) (h : wsc a) : a < 63 ∧ a ≠ 23 := by unfold wsc at h; omega
theorem CO.bs {M : q_M} {c K d : Nat} {L : Nat → Nat} {i : Nat} (h : CO M c K d L i) : q_fI M 0 c 2 = some (nI (cB K)) := (z_fI (by rw [h.1]; exact kT_is K)).trans (congrArg some h.2.2.2.1)
theorem CO.tt {M : q_M} {c K d : Nat} {L : Nat → Nat} {i : Nat} (h : CO M c K d L i) : q_fL M 0 c 5 = some (lN (cB K ^ lsm L)) := (z_fL (by rw [h.1]; exact kT_is K)).trans (congrArg some h.2.2.2.2.1)
theorem WK.c7 {M : q_M} {c K d : Nat} {L : Nat → Nat} {i : Nat} (w : WK M c K d L i) : q_fR M 10 25 7 = some (some c) := (z_fR (by rw [w.1.1 25 (by omega)]; rfl)).trans (congrArg some w.2.2.1)
theorem WK.d8 {M : q_M} {c K d : Nat} {L : Nat → Nat} {i : Nat} (w : WK M c K d L i) : q_fI M 10 25 8 = some (nI (lsm L)) := (y_fI w.1 (by omega) rfl).trans (congrArg some w.2.2.2)
theorem K_st21 {k cut s x : Nat} (hk : k < 60) {lo sd : Nat → Nat} : ∀ m a, a + m = 3 → ∀ {M : q_M}, SH M → (∀ b, b < 3 → gI M (27 + b) k = nI (lo b) ∧ gI M (31 + b) k = nI (sd b)) → (∀ b, b < a → gI M (27 + b) (k + 1) = nI (lo b) ∧ gI M (31 + b) (k + 1) = nI (sd b)) → ∃ M1, q_RL T_X10_step (21, [some (.inr (.inr (some 25))), some (.inl (nI k)), some (.inl (nI x)), some (.inl (nI s)), some (.inl (nI cut)), some (.inl (nI a))], [], M) = q_RL T_X10_step (21, [some (.inr (.inr (some 25))), some (.inl (nI k)), some (.inl (nI x)), some (.inl (nI s)), some (.inl (nI cut)), some (.inl (nI 3))], [], M1) ∧ WS k M M1 ∧ (∀ b, b < 3 → gI M1 (27 + b) (k + 1) = nI (lo b) ∧ gI M1 (31 + b) (k + 1) = nI (sd b)) ∧ ∀ j, gI M1 36 j = gI M 36 j := by
  intro m
  induction m with
  | zero =>
    intro a ha M h e1 e2
    rw [Nat.add_zero] at ha
    rw [ha] at e2 ⊢
    exact ⟨M, rfl, ⟨FC.rf _ M, rfl, rfl, fun _ _ _ _ => rfl, fun _ _ => rfl, fun _ _ => rfl, fun _ _ _ => rfl⟩, e2, fun _ => rfl⟩
  | succ m ih =>
    intro a ha M h e1 e2
    have a3 : a < 3 := by omega
    have hA : SH (stI M (27 + a) (k + 1) (nI (lo a))) := h
    have g2 : gI (stI M (27 + a) (k + 1) (nI (lo a))) (31 + a) k = nI (sd a) := (gI_oth (by omega)).trans (e1 a a3).2
    have oth : ∀ c j, (c ≠ 27 + a ∨ j ≠ k + 1) → (c ≠ 31 + a ∨ j ≠ k + 1) → gI (stI (stI M (27 + a) (k + 1) (nI (lo a))) (31 + a) (k + 1) (nI (sd a))) c j = gI M c j := fun c j h1 h2 => by rw [gI_oth (by omega), gI_oth (by omega)]
    obtain ⟨M1, p1, p2, p3, p4⟩ := ih (a + 1) (by omega) (M := stI (stI M (27 + a) (k + 1) (nI (lo a))) (31 + a) (k + 1) (nI (sd a))) h (fun b hb => ⟨(oth _ _ (by omega) (by omega)).trans (e1 b hb).1, (oth _ _ (by omega) (by omega)).trans (e1 b hb).2⟩) (fun b hb => by
      by_cases q : b = a
      · subst q
        exact ⟨by rw [gI_oth (by omega), gI_self], gI_self⟩
      · exact ⟨(oth _ _ (by omega) (by omega)).trans (e2 b (by omega)).1, (oth _ _ (by omega) (by omega)).trans (e2 b (by omega)).2⟩)
    obtain ⟨w1, w2, w3, w4, w5, w6, w7⟩ := p2
    refine ⟨M1, ?_, ⟨(((FC.rf wsc M).sI (a := 27 + a) ⟨by omega, by omega⟩).sI (a := 31 + a) ⟨by omega, by omega⟩).tr w1, w2, w3.trans (oth _ _ (by omega) (by omega)), fun c j h1 h2 => (w4 c j h1 h2).trans (oth _ _ (by omega) (by omega)), w5, fun j hj => (w6 j hj).trans (oth _ _ (by omega) (by omega)), fun c hc j => (w7 c hc j).trans (oth _ _ (by omega) (by omega))⟩, p3, fun j => (p4 j).trans (oth _ _ (by omega) (by omega))⟩
    rw [← p1, E_X10_step_21, if_neg (nI_ge a3 (by omega))]
    simp only [w_f h (show (25, 0, 26) ∈ q_crs by decide), Option.bind_some, w_lo h a3, w_a h (w61_l a3).1 (show k < 61 by omega), (e1 a a3).1, nI_add, w_b h (w61_l a3).1 (show k + 1 < 61 by omega), w_f hA (show (25, 1, 30) ∈ q_crs by decide), w_si hA a3, w_a hA (w61_l a3).2 (show k < 61 by omega), g2, w_b hA (w61_l a3).2 (show k + 1 < 61 by omega), nI_1]
theorem K_step {M : q_M} {c K d : Nat} {L : Nat → Nat} {i : Nat} (w : WK M c K d L i) (ok : okC K d L) {k p x : Nat} (wd : WD M (cmO K d L) k p) (hk : k < lsm L) (hp : p < cB K ^ k) (hx : x < cB K) : ∃ M1, q_CL 78 [.inr (.inr (some 25)), .inl (nI k), .inl (nI x)] M = some (none, M1) ∧ WS k M M1 ∧ WD M1 (cmO K d L) (k + 1) (p * cB K + x) ∧ gI M1 36 k = nI x := by
  have h60 := okC_60 ok
  have g := gd_co ok
  have eB := cmO_B K d L
  have B2 := cB_2 K
  have hp' : p < (cmO K d L).1 ^ k := by rw [eB]; exact hp
  obtain ⟨so, s256⟩ := st_ok ok (show k ≤ lsm L by omega) hp
  obtain ⟨q1, q2, q3, q4⟩ := g.2.1 k p hk hp'
  have rm := fun a ha => room_c ok (a := a) ha
  have br := fun a ha => bx_room g (show k ≤ lsm L by omega) hp' (a := a) ha
  obtain ⟨wd1, wd2, wd3⟩ := wd
  obtain ⟨h, co, w3, w4⟩ := w
  have w' : WK M c K d L i := ⟨h, co, w3, w4⟩
  obtain ⟨y1, y1s, y1c⟩ := K_ax co ok hk so
  have cc := (wd1 _ q1).2
  have x4 := (q4 x (by rw [eB]; exact hx)).1
  rw [eB] at x4
  have bk : bx (cmO K d L) (k + 1) (p * cB K + x) = bs (cmO K d L) k (bx (cmO K d L) k p) x := by
    have := bx_kid g.1 k p (v := x) (by rw [eB]; exact hx)
    rw [eB] at this
    exact this
  have lc := br _ q1
  rw [cmO_R] at lc
  have rc := (rm _ q1).2
  have hsd : bxp (cmO K d L) k p ≤ (bx (cmO K d L) k p).2.1 (bxa (cmO K d L) k p) := Nat.div_le_self _ _
  have tb : (cmO K d L).2.2.1 k (bx (cmO K d L) k p).2.2 x * bxp (cmO K d L) k p ≤ 3 * 2 ^ 20 := Nat.mul_le_mul (by omega) (by omega)
  obtain ⟨M3, e1, e2, e3, e36⟩ := K_st21 (k := k) (cut := bxa (cmO K d L) k p) (s := (bx (cmO K d L) k p).2.2) (x := x) (by omega) (lo := (bx (cmO K d L) k p).1) (sd := (bx (cmO K d L) k p).2.1) 3 0 (by omega) h (fun b hb => wd1 b hb) (fun b hb => by omega)
  have w3' := w'.kp e2
  obtain ⟨h3, co3, c73, d83⟩ := w3'
  have sk3 : gI M3 (31 + bxa (cmO K d L) k p) k = nI ((bx (cmO K d L) k p).2.1 (bxa (cmO K d L) k p)) := (e2.2.2.2.1 _ _ (by omega) (by omega)).trans cc
  have pk3 : gL M3 35 k = lN p := (e2.2.2.2.2.1 k (by omega)).trans wd3
  generalize hcut : bxa (cmO K d L) k p = cut at *
  generalize hs : (bx (cmO K d L) k p).2.2 = s at *
  generalize hlo : (bx (cmO K d L) k p).1 = lo at *
  generalize hsi : (bx (cmO K d L) k p).2.1 = sd at *
  have ep : bxp (cmO K d L) k p = sd cut / cB K := by show (bx (cmO K d L) k p).2.1 (bxa (cmO K d L) k p) / _ = _; rw [hsi, hcut, eB]
  rw [ep] at tb hsd q2
  have wc : ∀ a, 27 ≤ a ∧ a ≤ 36 → wsc a := fun a z => ⟨by omega, by omega⟩
  -- the tail
  have hA : SH (stI M3 (31 + cut) (k + 1) (nI (sd cut / cB K))) := h3
  have fA : FC wsc M3 (stI M3 (31 + cut) (k + 1) (nI (sd cut / cB K))) := (FC.rf wsc M3).sI (wc _ (by omega))
  have coA := co3.fc fA wsc_ok
  have wA : WK (stI M3 (31 + cut) (k + 1) (nI (sd cut / cB K))) c K d L i := ⟨hA, coA, c73, (gI_oth (by omega)).trans d83⟩
  have lA : gI (stI M3 (31 + cut) (k + 1) (nI (sd cut / cB K))) (27 + cut) (k + 1) = nI (lo cut) := (gI_oth (by omega)).trans (e3 cut q1).1
  obtain ⟨y2, y2s, y2c⟩ := K_tu coA ok hk so hx
  generalize hA' : stI M3 (31 + cut) (k + 1) (nI (sd cut / cB K)) = A at *
  have hB : SH (stI A (27 + cut) (k + 1) (nI (lo cut + (cmO K d L).2.2.1 k s x * (sd cut / cB K)))) := hA
  have fB : FC wsc A (stI A (27 + cut) (k + 1) (nI (lo cut + (cmO K d L).2.2.1 k s x * (sd cut / cB K)))) := (FC.rf wsc A).sI (wc _ (by omega))
  have coB := coA.fc fB wsc_ok
  have wB : WK (stI A (27 + cut) (k + 1) (nI (lo cut + (cmO K d L).2.2.1 k s x * (sd cut / cB K)))) c K d L i := ⟨hB, coB, wA.2.2.1, (gI_oth (by omega)).trans wA.2.2.2⟩
  obtain ⟨y3, y3s, y3c⟩ := K_sa coB ok hk so hx
  generalize hB' : stI A (27 + cut) (k + 1) (nI (lo cut + (cmO K d L).2.2.1 k s x * (sd cut / cB K))) = B at *
  have hC : SH (stI B 34 (k + 1) (nI ((cmO K d L).2.2.2.1 k s x))) := hB
  have fC : FC wsc B (stI B 34 (k + 1) (nI ((cmO K d L).2.2.2.1 k s x))) := (FC.rf wsc B).sI (wc 34 (by omega))
  have coC := coB.fc fC wsc_ok
  have wC : WK (stI B 34 (k + 1) (nI ((cmO K d L).2.2.2.1 k s x))) c K d L i := ⟨hC, coC, wB.2.2.1, (gI_oth (by omega)).trans wB.2.2.2⟩
  have pC : gL (stI B 34 (k + 1) (nI ((cmO K d L).2.2.2.1 k s x))) 35 k = lN p := by rw [gL_stI, ← hB', gL_stI, ← hA', gL_stI]; exact pk3
  generalize hC' : stI B 34 (k + 1) (nI ((cmO K d L).2.2.2.1 k s x)) = C at *
  have hD : SH (stL C 35 (k + 1) (lN (p * cB K + x))) := hC
  refine ⟨stI (stL C 35 (k + 1) (lN (p * cB K + x))) 36 k (nI x), ?_, ?_, ?_, gI_self⟩
  · rw [C_X10_step]
    simp only [w_f h (show (25, 2, 34) ∈ q_crs by decide), Option.bind_some, w_a h (show w61 34 by unfold w61; omega) (show k < 61 by omega), wd2, w'.c7, y1s, y1c, z_rI]
    have e1' : q_RL T_X10_step (21, [some (.inr (.inr (some 25))), some (.inl (nI k)), some (.inl (nI x)), some (.inl (nI s)), some (.inl (nI cut)), some (.inl (nI 0))], [], M) = _ := e1
    rw [show (cmO K d L).2.1 k s = cut by rw [← hcut, ← hs], e1', E_X10_step_21, if_pos (nI_le (by omega) (by omega))]
    have w3k : WK M3 c K d L i := ⟨h3, co3, c73, d83⟩
    have bn : ¬ nI (cB K) = 0 := nI_ne0 (by omega) (by omega)
    simp only [w_f h3 (show (25, 1, 30) ∈ q_crs by decide), Option.bind_some, w_si h3 q1, w_a h3 (w61_l q1).2 (show k < 61 by omega), sk3, w3k.c7, co3.bs, if_neg bn, nI_add, pk_div (show sd cut < 2 ^ 31 by omega) (show 0 < cB K by omega) (show cB K < 2 ^ 31 by omega), w_b h3 (w61_l q1).2 (show k + 1 < 61 by omega), hA']
    simp only [w_f hA (show (25, 0, 26) ∈ q_crs by decide), Option.bind_some, w_lo hA q1, w_a hA (w61_l q1).1 (show k + 1 < 61 by omega), lA, wA.c7, y2s, y2c, z_rI, pk_mul, nI_add, w_b hA (w61_l q1).1 (show k + 1 < 61 by omega), hB']
    simp only [w_f hB (show (25, 2, 34) ∈ q_crs by decide), Option.bind_some, wB.c7, y3s, y3c, z_rI, w_b hB (show w61 34 by unfold w61; omega) (show k + 1 < 61 by omega), hC']
    simp only [w_f hC (show (25, 3, 35) ∈ q_crs by decide), Option.bind_some, w_aL hC (show k < 61 by omega), pC, wC.c7, coC.bs, nI_l (show cB K < 2 ^ 31 by omega), nI_l (show x < 2 ^ 31 by omega), lN_mul, lN_add, w_bL hC (show k + 1 < 61 by omega), w_f hD (show (25, 4, 36) ∈ q_crs by decide), w_b hD (show w61 36 by unfold w61; omega) (show k < 61 by omega)]
  · have oth : ∀ c j, c ≠ 36 → j ≠ k + 1 → gI (stI (stL C 35 (k + 1) (lN (p * cB K + x))) 36 k (nI x)) c j = gI M3 c j := fun c j h1 h2 => by
      rw [gI_oth (by omega), gI_stL, ← hC', gI_oth (by omega), ← hB', gI_oth (by omega), ← hA', gI_oth (by omega)]
    have oth2 : ∀ c j, c = 25 ∨ c = 37 ∨ c = 38 → gI (stI (stL C 35 (k + 1) (lN (p * cB K + x))) 36 k (nI x)) c j = gI M3 c j := fun c j h1 => by
      rw [gI_oth (by omega), gI_stL, ← hC', gI_oth (by omega), ← hB', gI_oth (by omega), ← hA', gI_oth (by omega)]
    refine ⟨e2.1.tr ((((fA.tr fB).tr fC).sL (wc 35 (by omega))).sI (wc 36 (by omega))), ?_, (oth2 25 8 (by omega)).trans e2.2.2.1, fun c j h1 h2 => (oth c j h2 h1).trans (e2.2.2.2.1 c j h1 h2), fun j hj => ?_, fun j hj => ?_, fun c hc j => (oth2 c j (by omega)).trans (e2.2.2.2.2.2.2 c hc j)⟩
    · rw [gR_stI, gR_stL]
      exact wC.2.2.1.trans w3.symm
    · rw [gL_stI, gL_stL, if_neg (by omega), ← hC', gL_stI, ← hB', gL_stI, ← hA', gL_stI]
      exact e2.2.2.2.2.1 j hj
    · rw [gI_oth (by omega), gI_stL, ← hC', gI_oth (by omega), ← hB', gI_oth (by omega), ← hA', gI_oth (by omega)]
      exact e36 j
  · have cu2 : (cmO K d L).2.1 k s = cut := by rw [← hcut, ← hs]
    refine ⟨fun a ha => ?_, ?_, ?_⟩
    · rw [bk]
      unfold bs
      rw [hlo, hsi, hs, cu2, eB]
      dsimp only
      by_cases q : a = cut
      · subst q
        rw [va_up_self, va_up_self]
        constructor
        · rw [gI_oth (by omega), gI_stL, ← hC', gI_oth (by omega), ← hB', gI_self]
        · rw [gI_oth (by omega), gI_stL, ← hC', gI_oth (by omega), ← hB', gI_oth (by omega), ← hA', gI_self]
      · rw [va_up_ne _ _ q, va_up_ne _ _ q]
        constructor
        · rw [gI_oth (by omega), gI_stL, ← hC', gI_oth (by omega), ← hB', gI_oth (by omega), ← hA', gI_oth (by omega)]
          exact (e3 a ha).1
        · rw [gI_oth (by omega), gI_stL, ← hC', gI_oth (by omega), ← hB', gI_oth (by omega), ← hA', gI_oth (by omega)]
          exact (e3 a ha).2
    · rw [bk]
      unfold bs
      rw [hs, gI_oth (by omega), gI_stL, ← hC', gI_self]
    · rw [gL_stI, gL_stL, if_pos ⟨rfl, rfl⟩]
