/-! ===== THE CLASS: image, back ===== -/
theorem isc_23 (k : Nat) : q_isc 23 k = false := by
  cases c : q_isc 23 k with
  | false => rfl
  | true =>
    exfalso
    unfold q_isc at c
    rw [List.any_eq_true] at c
    obtain ⟨e, he, q⟩ := c
    rw [Bool.and_eq_true] at q
    have q1 := Nat.eq_of_beq_eq_true q.1
    exact (show ∀ e ∈ q_crs, e.1 ≠ 23 by decide) e he q1
theorem SI.kp {M M1 : q_M} {b : Nat} {v : Nat → Nat} {w : Nat → Int32} (s : SI M b v w) (k : KP M M1) (e : ∀ x, x < 21 → ∀ j, gI M1 (b + x) j = gI M (b + x) j ∧ gL M1 (b + x) j = gL M (b + x) j ∧ gR M1 (b + x) j = gR M (b + x) j) : SI M1 b v w := by
  obtain ⟨cs, cr, tl, hs, fn, rk, lz⟩ := s
  refine ⟨⟨(e 0 (by omega) 1).1.trans cs.1, fun i hi => ?_⟩, fun j hj => (e 3 (by omega) j).1.trans (cr j hj), ⟨(e 4 (by omega) 2).1.trans tl.1, (e 4 (by omega) 3).2.1.trans tl.2.1, fun x hx => ⟨(e 5 (by omega) x).2.1.trans (tl.2.2 x hx).1, (e 6 (by omega) x).2.1.trans (tl.2.2 x hx).2⟩⟩, fun j hj => ?_, ?_, fun x hx => ?_, fun j hj z => ?_⟩
  · obtain ⟨c, c1, c2⟩ := cs.2 i hi
    exact ⟨c, (e 1 (by omega) i).2.2.trans c1, c2.kp k⟩
  · have e1 := e (13 + 2 * j) (by omega)
    have e2 := e (14 + 2 * j) (by omega)
    rw [show b + (13 + 2 * j) = b + 13 + 2 * j by omega] at e1
    rw [show b + (14 + 2 * j) = b + 14 + 2 * j by omega] at e2
    exact (hs j hj).kp k (fun x => ⟨(e1 x).1, (e1 x).2.2, (e2 x).2.2⟩)
  · obtain ⟨n3, P, fq, f1, f2⟩ := fn
    exact ⟨n3, P, fq.kp k (fun x => ⟨(e 7 (by omega) x).1, (e 9 (by omega) x).2.1, (e 8 (by omega) x).2.2⟩), f1, f2⟩
  · obtain ⟨q1, q2, q3, q4, q5⟩ := rk x hx
    exact ⟨q1, q2, (e 10 (by omega) x).1.trans q3, fun z => (e 11 (by omega) x).2.1.trans (q4 z), fun z1 z2 => (e 12 (by omega) x).2.1.trans (q5 z1 z2)⟩
  · have e1 := e (13 + 2 * j) (by omega)
    rw [show b + (13 + 2 * j) = b + 13 + 2 * j by omega] at e1
    rw [(e1 3).1]
    exact lz j hj ((e1 1).2.2.symm.trans z)
theorem SB.kp {M M1 : q_M} {b : Nat} (s : SB M b) (t : ∀ x, x < 21 → M1.1 (b + x) = M.1 (b + x) ∧ M1.2.1 (b + x) = M.2.1 (b + x)) (e : ∀ x, x < 21 → ∀ j, gR M1 (b + x) j = gR M (b + x) j) : SB M1 b := ⟨fun x hx => (t x hx).1.trans (s.1 x hx), fun x hx => (t x hx).2.trans (s.2.1 x hx), fun y hy => (e y.1 ((show ∀ e ∈ stF, e.1 < 21 by decide) y hy) y.2.1).trans (s.2.2 y hy)⟩
theorem SB_st {b : Nat} {M0 M : q_M} (r : Rel b M0 stG M) : SB M b := by
  have n21 : gN stG = 21 := by decide +kernel
  refine ⟨fun x hx => ?_, fun x hx => ?_, fun e he => ?_⟩
  · rw [(r.2.2.2.1 x (by omega)).1]
    exact (show ∀ x, x < 21 → stG.1 x = stT.getD x 0 by decide +kernel) x hx
  · rw [(r.2.2.2.1 x (by omega)).2.1]
    exact (show ∀ x, x < 21 → stG.2.1 x = stN.getD x 0 by decide +kernel) x hx
  · have := (show ∀ e ∈ stF, e.1 < 21 by decide) e he
    rw [((r.2.2.2.1 e.1 (by omega)).2.2 e.2.1).2.2, (show ∀ e ∈ stF, gR stG e.1 e.2.1 = some e.2.2 by decide +kernel) e he]
    rfl
theorem a23 {M : q_M} (h : SH M) {p : Nat} (hp : p < 2) : q_aR M 23 (nI p) = some (gR M 23 p) := z_aR (n := 2) (by rw [h.tg (a := 23) (by omega) rfl]; decide) (h.ln (a := 23) (by omega) (by omega) rfl) hp (by omega)
/-- what an image leaves as it was -/
def FI (p b : Nat) (M M1 : q_M) : Prop := gN M ≤ gN M1 ∧ gN M1 ≤ gN M + 21 ∧ gS M1 ≤ gS M + 1100 ∧ KP M M1 ∧ (∀ q, q ≠ p → gR M1 23 q = gR M 23 q) ∧ ∀ a, a < gN M → M1.1 a = M.1 a ∧ M1.2.1 a = M.2.1 a ∧ (¬ (b ≤ a ∧ a < b + 21) → ∀ k, gI M1 a k = gI M a k ∧ gL M1 a k = gL M a k ∧ (a ≠ 23 → gR M1 a k = gR M a k))
theorem K_image_no {M : q_M} {x : Int32} (n : ¬ ∃ p, p < 2 ∧ x = nI p) : q_CL 138 [.inr (.inr (some 1)), .inl x] M = some (some (.inl (nI 0)), M) := by
  have t0 : nI 0 = 0 ∨ nI 0 = 1 := Or.inl rfl
  rw [C_X11_image]
  by_cases c : x < 0
  · rw [if_pos c, if_pos t0]
  rw [if_neg c]
  obtain ⟨p, hp, rfl⟩ := nI_of c
  rw [if_neg (nI_nlt (show 2 ≤ p from Nat.le_of_not_lt fun z => n ⟨p, z, rfl⟩) (by omega)), if_pos t0]
theorem K_imageB {M : q_M} (h : SH M) (ib : IB M) {v : Nat → Nat} {w : Nat → Int32} (sv : SV v) (h5 : v 55 ≤ 200) (si : SI M 2 v w) {p b : Nat} (hp : p < 2) (e : gR M 23 p = some b) (sb : SB M b) : ∃ M1, q_CL 138 [.inr (.inr (some 1)), .inl (nI p)] M = some (some (.inl (nI 1)), M1) ∧ SH M1 ∧ IB M1 ∧ gR M1 23 p = some b ∧ SB M1 b ∧ SI M1 b v w ∧ SI M1 2 v w ∧ FI p b M M1 := by
  have t1 : nI 1 = 0 ∨ nI 1 = 1 := Or.inr rfl
  obtain ⟨b1, b2⟩ := ib p b hp e
  have ns : ∀ a, b ≤ a → a < b + 21 → ¬ ST M a ∧ a ≠ 23 := fun a h1 h2 => ⟨fun z => z.2.2 p b hp e ⟨h1, h2⟩, by omega⟩
  obtain ⟨M1, m1, m2, m3⟩ := K_cpSt sb (SB_2 h) (Or.inr (by omega)) (Or.inr b1) ns sv h5 si
  have kp : KP M M1 := m2.1.kp2 (fun a z => ns a z.1 z.2)
  have of : ∀ a k, ¬ (b ≤ a ∧ a < b + 21) → gI M1 a k = gI M a k ∧ gL M1 a k = gL M a k ∧ gR M1 a k = gR M a k := fun a k z => m2.1.2.2.2.1 a k z
  refine ⟨M1, ?_, m2.1.sh h, ?_, (of 23 p (by omega)).2.2.trans e, m2.sb sb, m3, si.kp kp (fun x hx j => of (2 + x) j (by omega)), ?_⟩
  · rw [C_X11_image, if_neg (nI_pos (by omega)), if_pos (nI_lt hp (by omega))]
    simp only [c_now h (show (1, 1, 23) ∈ q_crs by decide), Option.bind_some, a23 h hp, e]
    rw [if_neg (by simp)]
    simp only [c_now h (show (1, 0, 2) ∈ q_crs by decide), Option.bind_some, sb.sel, m1, z_rV, if_pos t1]
  · intro q c hq hc
    rw [(of 23 q (by omega)).2.2] at hc
    have := ib q c hq hc
    rw [m2.1.gn]
    exact this
  · refine ⟨by rw [m2.1.gn]; exact Nat.le_refl _, by rw [m2.1.gn]; omega, by rw [m2.1.gs]; omega, kp, fun q _ => (of 23 q (by omega)).2.2, fun a ha => ⟨by rw [m2.1.1], by rw [m2.1.2.1], fun z k => ⟨(of a k z).1, (of a k z).2.1, fun _ => (of a k z).2.2⟩⟩⟩
theorem K_imageA {M : q_M} (h : SH M) (ib : IB M) {v : Nat → Nat} {w : Nat → Int32} (sv : SV v) (h5 : v 55 ≤ 200) (si : SI M 2 v w) {p : Nat} (hp : p < 2) (e : gR M 23 p = none) (rn : gN M + 100 ≤ 600000) (rs : gS M + 300000 ≤ 7302250) : ∃ M1, q_CL 138 [.inr (.inr (some 1)), .inl (nI p)] M = some (some (.inl (nI 1)), M1) ∧ SH M1 ∧ IB M1 ∧ gR M1 23 p = some (gN M) ∧ SB M1 (gN M) ∧ SI M1 (gN M) v w ∧ SI M1 2 v w ∧ FI p (gN M) M M1 := by
  have t1 : nI 1 = 0 ∨ nI 1 = 1 := Or.inr rfl
  have g63 := h.2.2.2
  obtain ⟨A0, A, z1, z2, r⟩ := N_st (b := gN M) rfl rn rs
  have n21 : gN stG = 21 := by decide +kernel
  have s21 : gS stG ≤ 1100 := by decide +kernel
  have sbA := SB_st r
  have r0 := r.2.2.2.2
  have nA : gN A = gN M + 21 := by rw [r.2.1, n21]
  have sA : gS A ≤ gS M + 1100 := by rw [r.2.2.1]; omega
  have t23 : A.1 23 = 21 := by rw [(r0 23 (by omega)).1]; exact h.tg (by omega) rfl
  have l23 : A.2.1 23 = 2 := by rw [(r0 23 (by omega)).2.1]; exact h.ln (by omega) (by omega) rfl
  have tb : A.1 (gN M) = 8 := sbA.tg (x := 0) (by omega) rfl
  have zb : q_bR A 23 (nI p) (some (gN M)) = some (stR A 23 p (some (gN M))) := z_bR (n := 2) ⟨by omega, by omega, by rw [t23]; show Nat.beq (A.1 (gN M)) 8 = true; rw [tb]; rfl⟩ l23 hp (by omega)
  have f23 : FB (fun a => a = 23) 21 1100 M (stR A 23 p (some (gN M))) := by
    refine ⟨by show gN M ≤ gN A; omega, by show gN A ≤ _; omega, by show gS A ≤ _; omega, fun a ha => ⟨(r0 a ha).1, (r0 a ha).2.1⟩, fun a k ha na => ?_, fun a k q => ?_⟩
    · obtain ⟨q1, q2, q3⟩ := (r0 a ha).2.2 k
      exact ⟨q1, q2, by rw [gR_stR, if_neg (fun z => na z.1)]; exact q3⟩
    · have := isc_lt q
      rw [gR_stR, if_neg (fun z => by rw [z.1, isc_23] at q; cases q)]
      exact ((r0 a (by omega)).2.2 k).2.2
  have f23i : ∀ k, gI (stR A 23 p (some (gN M))) 23 k = gI M 23 k := fun k => ((r0 23 (by omega)).2.2 k).1
  have f23l : ∀ k, gL (stR A 23 p (some (gN M))) 23 k = gL M 23 k := fun k => ((r0 23 (by omega)).2.2 k).2.1
  have eB : gR (stR A 23 p (some (gN M))) 23 p = some (gN M) := by rw [gR_stR, if_pos ⟨rfl, rfl⟩]
  have oB : ∀ q, q ≠ p → gR (stR A 23 p (some (gN M))) 23 q = gR M 23 q := fun q hq => by rw [gR_stR, if_neg (fun z => hq z.2)]; exact ((r0 23 (by omega)).2.2 q).2.2
  have sbB : SB (stR A 23 p (some (gN M))) (gN M) := sbA.kp (fun _ _ => ⟨rfl, rfl⟩) (fun x hx j => by rw [gR_stR, if_neg (by omega)])
  have nB : gN (stR A 23 p (some (gN M))) = gN M + 21 := nA
  generalize stR A 23 p (some (gN M)) = B at *
  have hB := f23.sh h
  have cB : ∀ a k, a < gN M → a ≠ 23 → gI B a k = gI M a k ∧ gL B a k = gL M a k ∧ gR B a k = gR M a k := fun a k ha na => f23.2.2.2.2.1 a k ha na
  have kB : KP M B := by
    refine ⟨fun a ha => ⟨ha.1, by have := ha.2.1; omega, fun q c hq hc z => ?_⟩, fun a ha => ⟨(f23.2.2.2.1 a ha.2.1).1, (f23.2.2.2.1 a ha.2.1).2, fun k => cB a k ha.2.1 (by have := ha.1; omega)⟩⟩
    by_cases y : q = p
    · subst y
      rw [eB] at hc
      cases hc
      have := ha.2.1
      omega
    · rw [oB q y] at hc
      exact ha.2.2 q c hq hc z
  have siB : SI B 2 v w := si.kp kB (fun x hx j => cB (2 + x) j (by omega) (by omega))
  have ns : ∀ a, gN M ≤ a → a < gN M + 21 → ¬ ST B a ∧ a ≠ 23 := fun a h1 h2 => ⟨fun z => z.2.2 p (gN M) hp eB ⟨h1, h2⟩, by omega⟩
  obtain ⟨M1, m1, m2, m3⟩ := K_cpSt sbB (SB_2 hB) (Or.inr (by omega)) (Or.inr g63) ns sv h5 siB
  have kp : KP B M1 := m2.1.kp2 (fun a z => ns a z.1 z.2)
  have of : ∀ a k, ¬ (gN M ≤ a ∧ a < gN M + 21) → gI M1 a k = gI B a k ∧ gL M1 a k = gL B a k ∧ gR M1 a k = gR B a k := fun a k z => m2.1.2.2.2.1 a k z
  have n1 : gN M1 = gN M + 21 := by rw [m2.1.gn]; exact nB
  refine ⟨M1, ?_, m2.1.sh hB, ?_, (of 23 p (by omega)).2.2.trans eB, m2.sb sbB, m3, siB.kp kp (fun x hx j => of (2 + x) j (by omega)), ?_⟩
  · rw [C_X11_image, if_neg (nI_pos (by omega)), if_pos (nI_lt hp (by omega))]
    simp only [c_now h (show (1, 1, 23) ∈ q_crs by decide), Option.bind_some, a23 h hp, e]
    rw [if_pos trivial]
    simp only [gN_d, z1, Option.bind_some, z2, z_rV, zb, c_now hB (show (1, 1, 23) ∈ q_crs by decide), a23 hB hp, eB, c_now hB (show (1, 0, 2) ∈ q_crs by decide), sbB.sel, m1, if_pos t1]
  · intro q c hq hc
    rw [(of 23 q (by omega)).2.2] at hc
    rw [n1]
    by_cases y : q = p
    · subst y
      rw [eB] at hc
      cases hc
      exact ⟨g63, Nat.le_refl _⟩
    · rw [oB q y] at hc
      have := ib q c hq hc
      omega
  · refine ⟨by omega, by omega, by rw [m2.1.gs]; exact f23.2.2.1, kB.tr kp, fun q hq => (of 23 q (by omega)).2.2.trans (oB q hq), fun a ha => ⟨?_, ?_, fun z k => ?_⟩⟩
    · rw [m2.1.1]; exact (f23.2.2.2.1 a ha).1
    · rw [m2.1.2.1]; exact (f23.2.2.2.1 a ha).2
    · obtain ⟨o1, o2, o3⟩ := of a k z
      by_cases y : a = 23
      · subst y
        have := (r0 23 (by omega)).2.2 k
        refine ⟨o1.trans ?_, o2.trans ?_, fun z => absurd rfl z⟩
        · exact f23i k
        · exact f23l k
      · obtain ⟨c1, c2, c3⟩ := cB a k ha y
        exact ⟨o1.trans c1, o2.trans c2, fun _ => o3.trans c3⟩
theorem K_back_no {M : q_M} (h : SH M) {x : Int32} (n : ¬ ∃ p, p < 2 ∧ x = nI p ∧ gR M 23 p ≠ none) : q_CL 139 [.inr (.inr (some 1)), .inl x] M = some (some (.inl (nI 0)), M) := by
  have t0 : nI 0 = 0 ∨ nI 0 = 1 := Or.inl rfl
  rw [C_X11_back]
  by_cases c : x < 0
  · rw [if_pos c, if_pos t0]
  rw [if_neg c]
  obtain ⟨p, hp, rfl⟩ := nI_of c
  by_cases c2 : p < 2
  · rw [if_neg (nI_ge c2 (by omega))]
    have e : gR M 23 p = none := by
      cases q : gR M 23 p with
      | none => rfl
      | some y => exact absurd ⟨p, c2, rfl, by rw [q]; simp⟩ n
    simp only [c_now h (show (1, 1, 23) ∈ q_crs by decide), Option.bind_some, a23 h c2, e]
    rw [if_pos trivial, if_pos t0]
  · rw [if_pos (nI_le (by omega) (by omega)), if_pos t0]
theorem K_back {M : q_M} (h : SH M) (ib : IB M) {v : Nat → Nat} {w : Nat → Int32} (sv : SV v) (h5 : v 55 ≤ 200) {p b : Nat} (hp : p < 2) (e : gR M 23 p = some b) (sb : SB M b) (si : SI M b v w) : ∃ M1, q_CL 139 [.inr (.inr (some 1)), .inl (nI p)] M = some (some (.inl (nI 1)), M1) ∧ FC (stR_ 2) M M1 ∧ SI M1 2 v w := by
  have t1 : nI 1 = 0 ∨ nI 1 = 1 := Or.inr rfl
  obtain ⟨b1, b2⟩ := ib p b hp e
  obtain ⟨M1, m1, m2, m3⟩ := K_cpSt (SB_2 h) sb (Or.inl (by omega)) (Or.inl rfl) (fun a h1 h2 => ⟨fun z => by have := z.1; omega, by omega⟩) sv h5 si
  refine ⟨M1, ?_, m2.1, m3⟩
  rw [C_X11_back, if_neg (nI_pos (by omega)), if_neg (nI_ge hp (by omega))]
  simp only [c_now h (show (1, 1, 23) ∈ q_crs by decide), Option.bind_some, a23 h hp, e]
  rw [if_neg (by simp)]
  simp only [c_now h (show (1, 0, 2) ∈ q_crs by decide), Option.bind_some, (SB_2 h).sel, m1, z_rV, if_pos t1]
