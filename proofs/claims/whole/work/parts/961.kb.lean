/-! ===== THE CLASS: the walk ===== -/
def wsc (a : Nat) : Prop := 25 ≤ a ∧ a ≤ 38
theorem y_fR {M : q_M} (h : SH M) {t a k c : Nat} (ha : a < 63) (ht : q_isT t (q_tgs.getD a 0) = true) (e : (a, k, c) ∈ q_crs) : q_fR M t a k = some (some c) := (z_fR (by rw [h.1 a ha]; exact ht)).trans (congrArg some (h.cr (a, k, c) e))
theorem y_aR {M : q_M} (h : SH M) {a k c : Nat} (h1 : 1 ≤ a) (ha : a < 63) (ht : 17 ≤ q_tgs.getD a 0 ∧ q_tgs.getD a 0 ≤ 22) (hk : k < q_lns.getD a 0) (hn : q_lns.getD a 0 ≤ 2147483647) (e : (a, k, c) ∈ q_crs) : q_aR M a (nI k) = some (some c) := (z_aR (by rw [h.1 a ha]; exact ht) (h.ln h1 ha rfl) hk hn).trans (congrArg some (h.cr (a, k, c) e))
theorem w_sel {M : q_M} (h : SH M) {y : Nat} : q_sel M [(10, y)] 25 = some y := y_sel h (by omega) rfl
theorem w_f {M : q_M} (h : SH M) {k c : Nat} (e : (25, k, c) ∈ q_crs) : q_fR M 10 25 k = some (some c) := y_fR h (by omega) rfl e
theorem w_lo {M : q_M} (h : SH M) {a : Nat} (ha : a < 3) : q_aR M 26 (nI a) = some (some (27 + a)) := by
  rcases (show a = 0 ∨ a = 1 ∨ a = 2 by omega) with rfl | rfl | rfl <;> exact y_aR h (by omega) (by omega) (by decide) (by decide) (by decide) (by decide)
theorem w_si {M : q_M} (h : SH M) {a : Nat} (ha : a < 3) : q_aR M 30 (nI a) = some (some (31 + a)) := by
  rcases (show a = 0 ∨ a = 1 ∨ a = 2 by omega) with rfl | rfl | rfl <;> exact y_aR h (by omega) (by omega) (by decide) (by decide) (by decide) (by decide)
def w61 (c : Nat) : Prop := c = 27 ∨ c = 28 ∨ c = 29 ∨ c = 31 ∨ c = 32 ∨ c = 33 ∨ c = 34 ∨ c = 36
theorem w61_l {a : Nat} (ha : a < 3) : w61 (27 + a) ∧ w61 (31 + a) := by unfold w61; omega
theorem w_a {M : q_M} (h : SH M) {c k : Nat} (hc : w61 c) (hk : k < 61) : q_aI M 14 c (nI k) = some (gI M c k) := by
  rcases hc with rfl | rfl | rfl | rfl | rfl | rfl | rfl | rfl <;> exact y_aI h (by omega) (by omega) rfl hk (by decide)
theorem w_b {M : q_M} (h : SH M) {c k : Nat} {x : Int32} (hc : w61 c) (hk : k < 61) : q_bI M 14 c (nI k) x = some (stI M c k x) := by
  rcases hc with rfl | rfl | rfl | rfl | rfl | rfl | rfl | rfl <;> exact y_bI h (by omega) (by omega) rfl hk (by decide)
theorem w_a3 {M : q_M} (h : SH M) {c k : Nat} (hc : c = 37 ∨ c = 38) (hk : k < 3) : q_aI M 14 c (nI k) = some (gI M c k) := by
  rcases hc with rfl | rfl <;> exact y_aI h (by omega) (by omega) rfl hk (by decide)
theorem w_b3 {M : q_M} (h : SH M) {c k : Nat} {x : Int32} (hc : c = 37 ∨ c = 38) (hk : k < 3) : q_bI M 14 c (nI k) x = some (stI M c k x) := by
  rcases hc with rfl | rfl <;> exact y_bI h (by omega) (by omega) rfl hk (by decide)
theorem w_aL {M : q_M} (h : SH M) {k : Nat} (hk : k < 61) : q_aL M 35 (nI k) = some (gL M 35 k) := y_aL h (by omega) (by omega) rfl hk (by decide)
theorem w_bL {M : q_M} (h : SH M) {k : Nat} {x : Int64} (hk : k < 61) : q_bL M 35 (nI k) x = some (stL M 35 k x) := y_bL h (by omega) (by omega) rfl hk (by decide)
/-- the walk stands on a curve; its first state and prefix are nothing -/
def WK (M : q_M) (c K d : Nat) (L : Nat → Nat) (i : Nat) : Prop := SH M ∧ CO M c K d L i ∧ gR M 25 7 = some c ∧ gI M 25 8 = nI (lsm L)
/-- the box at depth k, of prefix p -/
def WD (M : q_M) (m : Cm) (k p : Nat) : Prop := (∀ a, a < 3 → gI M (27 + a) k = nI ((bx m k p).1 a) ∧ gI M (31 + a) k = nI ((bx m k p).2.1 a)) ∧ gI M 34 k = nI (bx m k p).2.2 ∧ gL M 35 k = lN p
/-- the window -/
def WV (M : q_M) (lo hi : Nat → Nat) : Prop := ∀ a, a < 3 → gI M 37 a = nI (lo a) ∧ gI M 38 a = nI (hi a)
/-- one step's frame -/
def WS (k : Nat) (M M1 : q_M) : Prop := FC wsc M M1 ∧ gR M1 25 7 = gR M 25 7 ∧ gI M1 25 8 = gI M 25 8 ∧ (∀ c j, j ≠ k + 1 → c ≠ 36 → gI M1 c j = gI M c j) ∧ (∀ j, j ≠ k + 1 → gL M1 35 j = gL M 35 j) ∧ (∀ j, j ≠ k → gI M1 36 j = gI M 36 j) ∧ (∀ c, c = 37 ∨ c = 38 → ∀ j, gI M1 c j = gI M c j)
theorem WK.kp {M M1 : q_M} {c K d : Nat} {L : Nat → Nat} {i : Nat} (w : WK M c K d L i) {k : Nat} (f : WS k M M1) : WK M1 c K d L i := ⟨f.1.sh w.1, w.2.1.kp (f.1.kp fun a h => by unfold wsc at h; omega), f.2.1.trans w.2.2.1, f.2.2.1.trans w.2.2.2⟩
theorem WD.ws {M M1 : q_M} {m : Cm} {j p k : Nat} (w : WD M m j p) (f : WS k M M1) (h : j ≠ k + 1) : WD M1 m j p := by
  obtain ⟨w1, w2, w3⟩ := w
  obtain ⟨_, _, _, f4, f5, _⟩ := f
  exact ⟨fun a ha => ⟨(f4 _ _ h (by omega)).trans (w1 a ha).1, (f4 _ _ h (by omega)).trans (w1 a ha).2⟩, (f4 _ _ h (by omega)).trans w2, (f5 j h).trans w3⟩
theorem WV.ws {M M1 : q_M} {lo hi : Nat → Nat} {k : Nat} (w : WV M lo hi) (f : WS k M M1) : WV M1 lo hi := fun a ha => ⟨(f.2.2.2.2.2.2 37 (Or.inl rfl) a).trans (w a ha).1, (f.2.2.2.2.2.2 38 (Or.inr rfl) a).trans (w a ha).2⟩
theorem okC_60 {K d : Nat} {L : Nat → Nat} (ok : okC K d L) : lsm L ≤ 60 := by have := ok.2.2.1 0 (by omega); have := ok.2.2.1 1 (by omega); have := ok.2.2.1 2 (by omega); unfold lsm; omega
/-- a box lies in the room -/
theorem bx_room {m : Cm} {D : Nat} (g : Gd m D) {k p : Nat} (hk : k ≤ D) (hp : p < m.1 ^ k) {a : Nat} (ha : a < 3) : (bx m k p).1 a + (bx m k p).2.1 a ≤ m.2.2.2.2 a := by
  have sp := side_pos g hk hp
  have q : inb (bx m k p) (fun a => (bx m k p).1 a + (bx m k p).2.1 a - 1) := fun b hb => by
    have := sp b hb
    show (bx m k p).1 b ≤ (bx m k p).1 b + (bx m k p).2.1 b - 1 ∧ (bx m k p).1 b + (bx m k p).2.1 b - 1 < _
    omega
  have := (np_eq g k p hk hp q).1 a ha
  have := sp a ha
  have e : (bx m 0 0).2.1 a = m.2.2.2.2 a := rfl
  have e0 : (bx m 0 0).1 a = 0 := rfl
  have h2 : (bx m k p).1 a + (bx m k p).2.1 a - 1 < (bx m 0 0).1 a + (bx m 0 0).2.1 a := ((np_eq g k p hk hp q).1 a ha).2
  omega
/-- the states of a curve -/
theorem st_ok {K d : Nat} {L : Nat → Nat} (ok : okC K d L) {k p : Nat} (hk : k ≤ lsm L) (hp : p < cB K ^ k) : vS K d k (bx (cmO K d L) k p).2.2 ∧ (bx (cmO K d L) k p).2.2 < 256 := by
  by_cases k2 : K = 2
  · subst k2
    have := (gd_turn ok).2 k p hk hp
    exact ⟨⟨fun _ => this, fun z => by omega⟩, this.1⟩
  · by_cases k3 : K = 3
    · subst k3
      have key : ∀ k p, k ≤ lsm L → (bx (cmO 3 d L) k p).2.2 < 8 := by
        intro k
        induction k with
        | zero => intro p _; show 0 < 8; omega
        | succ k ih =>
          intro p hk
          have ih := ih (p / (cmO 3 d L).1) (by omega)
          have ha : (owW L).getD k 0 < 3 := by
            rcases Nat.lt_or_ge k (owW L).length with q | q
            · have : (owW L).getD k 0 = (owW L)[k] := by simp [List.getD, q]
              rw [this]; exact owN_3 L 20 _ (List.getElem_mem q)
            · have : (owW L).getD k 0 = 0 := by simp [List.getD, List.getElem?_eq_none q]
              rw [this]; omega
          show snN (bx (cmO 3 d L) k (p / (cmO 3 d L).1)).2.2 ((owW L).getD k 0) (p % (cmO 3 d L).1) < 8
          exact (tq9 _ ih _ ha _ (Nat.mod_lt _ (by decide))).2
      have := key k p hk
      exact ⟨⟨fun z => by omega, fun _ => this⟩, by omega⟩
    · have : (bx (cmO K d L) k p).2.2 = 0 := by
        cases k with
        | zero => rfl
        | succ k =>
          show (cmO K d L).2.2.2.1 k _ _ = 0
          unfold cmO
          rw [if_neg k2, if_neg k3]
      rw [this]
      exact ⟨⟨fun z => absurd z k2, fun z => absurd z k3⟩, by omega⟩
theorem gd_co {K d : Nat} {L : Nat → Nat} (ok : okC K d L) : Gd (cmO K d L) (lsm L) := gd_all ok
theorem room_c {K d : Nat} {L : Nat → Nat} (ok : okC K d L) {a : Nat} (ha : a < 3) : 0 < cB K ^ L a ∧ cB K ^ L a ≤ 2 ^ 20 := by
  refine ⟨Nat.pow_pos (by have := cB_2 K; omega), ?_⟩
  by_cases h3 : K = 3
  · rw [show cB K = 3 from if_pos h3]
    have : L a ≤ 12 := by
      by_cases hd : a < d
      · rw [ok.2.2.2.2.2.1 (Or.inr (Or.inr h3)) a hd]; exact ok.2.2.2.2.2.2 h3
      · rw [ok.2.2.2.2.1 a (by omega) ha]; omega
    exact Nat.le_trans (Nat.pow_le_pow_right (by omega) this) (by decide)
  · rw [show cB K = 2 from if_neg h3]
    exact Nat.pow_le_pow_right (by omega) (ok.2.2.1 a ha)
/-- enter -/
theorem K_enter {M : q_M} (h : SH M) {c K d : Nat} {L : Nat → Nat} {i : Nat} (co : CO M c K d L i) (ok : okC K d L) (z1 : gI M 34 0 = nI 0) (z2 : gL M 35 0 = lN 0) : ∃ M1, q_CL 68 [.inr (.inr (some 25)), .inr (.inr (some c))] M = some (none, M1) ∧ FC wsc M M1 ∧ WK M1 c K d L i ∧ WD M1 (cmO K d L) 0 0 ∧ WV M1 (fun _ => 0) (fun a => cB K ^ L a - 1) := by
  have h60 := okC_60 ok
  have co' := co
  obtain ⟨h1, h2, h3, h4, h5, h6, rm, od, r1, r2, r3, r4, r5, r6, r7, r8, r9, r10⟩ := co
  have c63 := h6.1
  have rm63 := r9.1
  have t0' : q_isT 0 (M.1 c) = true := by rw [h1]; exact kT_is K
  have hA : SH (stR M 25 7 (some c)) := SH_stR (by decide) h
  have hB : SH (stI (stR M 25 7 (some c)) 25 8 (nI (lsm L))) := hA
  have key : ∀ m a, a + m = 3 → ∀ {M : q_M}, SH M → q_isT 0 (M.1 c) = true → gR M c 3 = some rm → M.1 rm = 14 → M.2.1 rm = 3 → (∀ a, a < 3 → gI M rm a = nI (cB K ^ L a)) → (∀ b, b < a → gI M (27 + b) 0 = nI 0 ∧ gI M (31 + b) 0 = nI (cB K ^ L b) ∧ gI M 37 b = nI 0 ∧ gI M 38 b = nI (cB K ^ L b - 1)) → ∃ M1, q_RL T_X10_enter (16, [some (.inr (.inr (some 25))), some (.inr (.inr (some c))), some (.inl (nI a))], [], M) = some (none, M1) ∧ FC (fun x => 27 ≤ x ∧ x ≤ 38) M M1 ∧ (∀ x k, x = 34 ∨ x = 36 → gI M1 x k = gI M x k) ∧ (∀ k, gL M1 35 k = gL M 35 k) ∧ (∀ x k, gR M1 x k = gR M x k) ∧ (∀ b, b < 3 → gI M1 (27 + b) 0 = nI 0 ∧ gI M1 (31 + b) 0 = nI (cB K ^ L b) ∧ gI M1 37 b = nI 0 ∧ gI M1 38 b = nI (cB K ^ L b - 1)) := by
    intro m
    induction m with
    | zero =>
      intro a ha M h _ _ _ _ _ e
      refine ⟨M, ?_, FC.rf _ M, fun _ _ _ => rfl, fun _ => rfl, fun _ _ => rfl, fun b hb => e b (by omega)⟩
      rw [E_X10_enter_16, if_pos (nI_le (by omega) (by omega))]
    | succ m ih =>
      intro a ha M h t0' r1 r2 r3 r4 e
      have a3 : a < 3 := by omega
      have rp := (room_c ok a3).1
      have hA : SH (stI M (27 + a) 0 (nI 0)) := h
      have hB : SH (stI (stI M (27 + a) 0 (nI 0)) (31 + a) 0 (nI (cB K ^ L a))) := h
      have hC : SH (stI (stI (stI M (27 + a) 0 (nI 0)) (31 + a) 0 (nI (cB K ^ L a))) 37 a (nI 0)) := h
      have g1 : gI (stI M (27 + a) 0 (nI 0)) rm a = nI (cB K ^ L a) := (gI_oth (by omega)).trans (r4 a a3)
      have g2 : gI (stI (stI (stI M (27 + a) 0 (nI 0)) (31 + a) 0 (nI (cB K ^ L a))) 37 a (nI 0)) rm a = nI (cB K ^ L a) := (gI_oth (by omega)).trans ((gI_oth (by omega)).trans ((gI_oth (by omega)).trans (r4 a a3)))
      have P1 : ∀ x, 27 ≤ x ∧ x ≤ 38 → (fun x => 27 ≤ x ∧ x ≤ 38) x := fun x z => z
      obtain ⟨M1, p1, p2, p3, p4, p5, p6⟩ := ih (a + 1) (by omega) (M := stI (stI (stI (stI M (27 + a) 0 (nI 0)) (31 + a) 0 (nI (cB K ^ L a))) 37 a (nI 0)) 38 a (nI (cB K ^ L a - 1))) h t0' r1 r2 r3 (fun b hb => (gI_oth (by omega)).trans ((gI_oth (by omega)).trans ((gI_oth (by omega)).trans ((gI_oth (by omega)).trans (r4 b hb))))) (fun b hb => by
        by_cases q : b = a
        · subst q
          refine ⟨?_, ?_, ?_, gI_self⟩
          · rw [gI_oth (by omega), gI_oth (by omega), gI_oth (by omega), gI_self]
          · rw [gI_oth (by omega), gI_oth (by omega), gI_self]
          · rw [gI_oth (by omega), gI_self]
        · obtain ⟨e1, e2, e3, e4⟩ := e b (by omega)
          refine ⟨?_, ?_, ?_, ?_⟩
          · rw [gI_oth (by omega), gI_oth (by omega), gI_oth (by omega), gI_oth (by omega)]; exact e1
          · rw [gI_oth (by omega), gI_oth (by omega), gI_oth (by omega), gI_oth (by omega)]; exact e2
          · rw [gI_oth (by omega), gI_oth (by omega), gI_oth (by omega), gI_oth (by omega)]; exact e3
          · rw [gI_oth (by omega), gI_oth (by omega), gI_oth (by omega), gI_oth (by omega)]; exact e4)
      refine ⟨M1, ?_, (((((FC.rf (fun x => 27 ≤ x ∧ x ≤ 38) M).sI (a := 27 + a) (by omega)).sI (a := 31 + a) (by omega)).sI (a := 37) (by omega)).sI (a := 38) (by omega)).tr p2, fun x k hx => ?_, p4, p5, p6⟩
      · rw [E_X10_enter_16, if_neg (nI_ge a3 (by omega))]
        simp only [w_f h (show (25, 0, 26) ∈ q_crs by decide), Option.bind_some, w_lo h a3, w_b h (w61_l a3).1 (show 0 < 61 by omega), w_f hA (show (25, 1, 30) ∈ q_crs by decide), w_si hA a3, z_fR (M := stI M (27 + a) 0 (nI 0)) t0', gR_stI, r1, z_aI (M := stI M (27 + a) 0 (nI 0)) r2 r3 a3 (show 3 ≤ 2147483647 by omega), g1, w_b hA (w61_l a3).2 (show 0 < 61 by omega), w_f hB (show (25, 5, 37) ∈ q_crs by decide), w_b3 hB (Or.inl rfl) a3, w_f hC (show (25, 6, 38) ∈ q_crs by decide), z_fR (M := stI (stI (stI M (27 + a) 0 (nI 0)) (31 + a) 0 (nI (cB K ^ L a))) 37 a (nI 0)) t0', z_aI (M := stI (stI (stI M (27 + a) 0 (nI 0)) (31 + a) 0 (nI (cB K ^ L a))) 37 a (nI 0)) r2 r3 a3 (show 3 ≤ 2147483647 by omega), g2, pk_sub rp, w_b3 hC (Or.inr rfl) a3, nI_1, p1]
      · rw [p3 x k hx, gI_oth (by omega), gI_oth (by omega), gI_oth (by omega), gI_oth (by omega)]
  have rR : ∀ x k, x ≠ 25 → gR (stI (stR M 25 7 (some c)) 25 8 (nI (lsm L))) x k = gR M x k := fun x k hx => by rw [gR_stI, gR_stR, if_neg (by omega)]
  obtain ⟨M1, p1, p2, p3, p4, p5, p6⟩ := key 3 0 (by omega) hB t0' ((rR c 3 (by omega)).trans r1) r2 r3 (fun a ha => (gI_oth (by omega)).trans (r4 a ha)) (fun b hb => by omega)
  have fB : FC wsc M (stI (stR M 25 7 (some c)) 25 8 (nI (lsm L))) := ((FC.rf wsc M).sR (show wsc 25 from ⟨by omega, by omega⟩) (by decide)).sI (show wsc 25 from ⟨by omega, by omega⟩)
  have f1 : FC wsc M M1 := fB.tr (p2.wk fun a z => ⟨by omega, by omega⟩)
  refine ⟨M1, ?_, f1, ⟨f1.sh h, co'.kp (f1.kp fun a z => by unfold wsc at z; omega), ?_, ?_⟩, ⟨fun a ha => ⟨(p6 a ha).1, ?_⟩, ?_, ?_⟩, fun a ha => ⟨(p6 a ha).2.2.1, (p6 a ha).2.2.2⟩⟩
  · have s7 : q_sR M 10 25 7 (some c) = some (stR M 25 7 (some c)) := z_sR (by rw [h.1 25 (by omega)]; rfl)
    have s8 : q_sI (stR M 25 7 (some c)) 10 25 8 (nI (lsm L)) = some (stI (stR M 25 7 (some c)) 25 8 (nI (lsm L))) := y_sI hA (by omega) rfl
    have f4 : q_fR (stR M 25 7 (some c)) 0 c 4 = some (some od) := (z_fR (M := stR M 25 7 (some c)) t0').trans (congrArg some (by rw [gR_stR, if_neg (by omega)]; exact r5))
    have l4 : q_len (stR M 25 7 (some c)) od = some (nI (lsm L)) := by
      unfold q_len
      rw [if_pos (show 13 ≤ (stR M 25 7 (some c)).1 od ∧ (stR M 25 7 (some c)).1 od ≤ 22 by rw [t_stR, r6]; omega), l_stR, r7]
      rfl
    rw [C_X10_enter]
    simp only [s7, Option.bind_some, f4, l4, s8, p1]
  · rw [p5, gR_stI, gR_stR, if_pos ⟨rfl, rfl⟩]
  · rw [(p2.2.2.2.1 25 8 (by omega)).1, gI_self]
  · rw [(p6 a ha).2.1]
    show nI (cB K ^ L a) = nI ((cmO K d L).2.2.2.2 a)
    rw [cmO_R]
  · rw [p3 34 0 (Or.inl rfl), gI_oth (by omega), gI_stR]; exact z1
  · rw [p4, gL_stI, gL_stR]; exact z2
