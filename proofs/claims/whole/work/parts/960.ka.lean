/-! ===== THE CLASS: frames ===== -/
/-- only the cells in P may have changed; nothing is made -/
def FC (P : Nat → Prop) (M M1 : q_M) : Prop := M1.1 = M.1 ∧ M1.2.1 = M.2.1 ∧ M1.2.2.2.2.2 = M.2.2.2.2.2 ∧ (∀ a k, ¬ P a → gI M1 a k = gI M a k ∧ gL M1 a k = gL M a k ∧ gR M1 a k = gR M a k) ∧ ∀ a k, q_isc a k = true → gR M1 a k = gR M a k
theorem FC.rf (P : Nat → Prop) (M : q_M) : FC P M M := ⟨rfl, rfl, rfl, fun _ _ _ => ⟨rfl, rfl, rfl⟩, fun _ _ _ => rfl⟩
theorem FC.tr {P : Nat → Prop} {M M1 M2 : q_M} (a : FC P M M1) (b : FC P M1 M2) : FC P M M2 := by
  refine ⟨b.1.trans a.1, b.2.1.trans a.2.1, b.2.2.1.trans a.2.2.1, fun x k h => ?_, fun x k h => (b.2.2.2.2 x k h).trans (a.2.2.2.2 x k h)⟩
  obtain ⟨a1, a2, a3⟩ := a.2.2.2.1 x k h
  obtain ⟨b1, b2, b3⟩ := b.2.2.2.1 x k h
  exact ⟨b1.trans a1, b2.trans a2, b3.trans a3⟩
theorem FC.wk {P Q : Nat → Prop} {M M1 : q_M} (f : FC P M M1) (h : ∀ a, P a → Q a) : FC Q M M1 := ⟨f.1, f.2.1, f.2.2.1, fun a k q => f.2.2.2.1 a k fun z => q (h a z), f.2.2.2.2⟩
theorem FC.sI {P : Nat → Prop} {M M1 : q_M} (f : FC P M M1) {a k : Nat} {x : Int32} (h : P a) : FC P M (stI M1 a k x) := by
  refine ⟨f.1, f.2.1, f.2.2.1, fun b j hb => ?_, f.2.2.2.2⟩
  rw [gI_stI, if_neg (fun e => hb (by rw [e.1]; exact h))]
  exact f.2.2.2.1 b j hb
theorem FC.sL {P : Nat → Prop} {M M1 : q_M} (f : FC P M M1) {a k : Nat} {x : Int64} (h : P a) : FC P M (stL M1 a k x) := by
  refine ⟨f.1, f.2.1, f.2.2.1, fun b j hb => ?_, f.2.2.2.2⟩
  rw [gL_stL, if_neg (fun e => hb (by rw [e.1]; exact h))]
  exact f.2.2.2.1 b j hb
theorem FC.sR {P : Nat → Prop} {M M1 : q_M} (f : FC P M M1) {a k : Nat} {x : Option Nat} (h : P a) (hk : q_isc a k = false) : FC P M (stR M1 a k x) := by
  refine ⟨f.1, f.2.1, f.2.2.1, fun b j hb => ?_, fun b j hb => ?_⟩
  · rw [gR_stR, if_neg (fun e => hb (by rw [e.1]; exact h))]
    exact f.2.2.2.1 b j hb
  · rw [gR_stR, if_neg (fun e => by rw [e.1, e.2, hk] at hb; cases hb)]
    exact f.2.2.2.2 b j hb
theorem FC.sh {P : Nat → Prop} {M M1 : q_M} (f : FC P M M1) (h : SH M) : SH M1 := by
  obtain ⟨a, b, c, _, d⟩ := f
  refine ⟨by rw [a]; exact h.1, by rw [b]; exact h.2.1, fun e he => ?_, by unfold gN; rw [c]; exact h.2.2.2⟩
  rw [d e.1 e.2.1]
  · exact h.2.2.1 e he
  · unfold q_isc
    rw [List.any_eq_true]
    exact ⟨e, he, by rw [Nat.beq_refl, Nat.beq_refl]; rfl⟩
/-- what the reference does is off the class -/
def rfc (a : Nat) : Prop := 49 ≤ a ∧ a ≤ 62
theorem FC.fg {P A : Nat → Nat → Prop} {M M1 : q_M} (f : FG P A M M1) (h1 : ∀ a k, P a k → rfc a) (h2 : ∀ a k, A a k → rfc a) : FC rfc M M1 := ⟨f.1, f.2.1, by rw [f.2.2.1], fun a k q => ⟨f.2.2.2.1 a k fun z => q (h1 a k z), f.2.2.2.2 a k fun z => q (h2 a k z), by unfold gR; rw [f.2.2.1]⟩, fun a k _ => by unfold gR; rw [f.2.2.1]⟩
/-- cells that stand: made, and no image's own -/
def ST (M : q_M) (a : Nat) : Prop := 63 ≤ a ∧ a < gN M ∧ ∀ p b, p < 2 → gR M 23 p = some b → ¬ (b ≤ a ∧ a < b + 21)
/-- what stands stays -/
def KP (M M1 : q_M) : Prop := (∀ a, ST M a → ST M1 a) ∧ ∀ a, ST M a → M1.1 a = M.1 a ∧ M1.2.1 a = M.2.1 a ∧ ∀ k, gI M1 a k = gI M a k ∧ gL M1 a k = gL M a k ∧ gR M1 a k = gR M a k
theorem KP.rf (M : q_M) : KP M M := ⟨fun _ h => h, fun _ _ => ⟨rfl, rfl, fun _ => ⟨rfl, rfl, rfl⟩⟩⟩
theorem KP.tr {M M1 M2 : q_M} (a : KP M M1) (b : KP M1 M2) : KP M M2 := by
  refine ⟨fun x h => b.1 x (a.1 x h), fun x h => ?_⟩
  obtain ⟨a1, a2, a3⟩ := a.2 x h
  obtain ⟨b1, b2, b3⟩ := b.2 x (a.1 x h)
  refine ⟨b1.trans a1, b2.trans a2, fun k => ?_⟩
  obtain ⟨c1, c2, c3⟩ := a3 k
  obtain ⟨d1, d2, d3⟩ := b3 k
  exact ⟨d1.trans c1, d2.trans c2, d3.trans c3⟩
theorem FC.kp {P : Nat → Prop} {M M1 : q_M} (f : FC P M M1) (h : ∀ a, P a → a < 63 ∧ a ≠ 23) : KP M M1 := by
  obtain ⟨a, b, c, d, e⟩ := f
  have n : gN M1 = gN M := by unfold gN; rw [c]
  refine ⟨fun x hx => ?_, fun x hx => ?_⟩
  · obtain ⟨h1, h2, h3⟩ := hx
    refine ⟨h1, by rw [n]; exact h2, fun p b hp hb => ?_⟩
    rw [(d 23 p (fun z => (h 23 z).2 rfl)).2.2] at hb
    exact h3 p b hp hb
  · exact ⟨by rw [a], by rw [b], fun k => d x k (fun z => by have := (h x z).1; have := hx.1; omega)⟩
/-! ===== THE CLASS: a curve ===== -/
def kT (K : Nat) : Nat := if K = 2 then 9 else if K = 3 then 6 else 0
theorem kT_is (K : Nat) : q_isT 0 (kT K) = true := by
  unfold kT
  split
  · rfl
  · split <;> rfl
/-- c is the object of a curve -/
def CO (M : q_M) (c K d : Nat) (L : Nat → Nat) (i : Nat) : Prop := M.1 c = kT K ∧ gI M c 0 = nI i ∧ gI M c 1 = nI d ∧ gI M c 2 = nI (cB K) ∧ gL M c 5 = lN (cB K ^ lsm L) ∧ ST M c ∧ ∃ rm od, gR M c 3 = some rm ∧ M.1 rm = 14 ∧ M.2.1 rm = 3 ∧ (∀ a, a < 3 → gI M rm a = nI (cB K ^ L a)) ∧ gR M c 4 = some od ∧ M.1 od = 14 ∧ M.2.1 od = lsm L ∧ (∀ k, k < lsm L → gI M od k = nI ((owK K L).getD k 0)) ∧ ST M rm ∧ ST M od
theorem CO.kp {M M1 : q_M} {c K d : Nat} {L : Nat → Nat} {i : Nat} (h : CO M c K d L i) (k : KP M M1) : CO M1 c K d L i := by
  obtain ⟨h1, h2, h3, h4, h5, h6, rm, od, r1, r2, r3, r4, r5, r6, r7, r8, r9, r10⟩ := h
  obtain ⟨a1, a2, a3⟩ := k.2 c h6
  obtain ⟨b1, b2, b3⟩ := k.2 rm r9
  obtain ⟨c1, c2, c3⟩ := k.2 od r10
  refine ⟨a1.trans h1, (a3 0).1.trans h2, (a3 1).1.trans h3, (a3 2).1.trans h4, (a3 5).2.1.trans h5, k.1 c h6, rm, od, (a3 3).2.2.trans r1, b1.trans r2, b2.trans r3, fun a ha => (b3 a).1.trans (r4 a ha), (a3 4).2.2.trans r5, c1.trans r6, c2.trans r7, fun x hx => (c3 x).1.trans (r8 x hx), k.1 rm r9, k.1 od r10⟩
/-- states that digits can have behind them -/
def vS (K d k s : Nat) : Prop := (K = 2 → vT d (k % d) s) ∧ (K = 3 → s < 8)
theorem tq1 : ∀ s, s < 256 → (nI s >>> ((nI 3) &&& 31)) &&& (nI 3) = nI (s / 8 % 4) := by decide +kernel
theorem tq2 : ∀ s, s < 256 → ∀ b, b < 3 → ∀ x, x < 2 → ((nI x ^^^ (nI s &&& (nI 1))) ^^^ (((nI s >>> ((nI 5) &&& 31)) >>> (nI b &&& 31)) &&& (nI 1))) = nI ((x + s % 2 + s / 32 / 2 ^ b % 2) % 2) := by decide +kernel
theorem tq3 : ∀ s, s < 256 → ∀ x, x < 2 → (((nI s &&& (nI 3)) <<< ((nI 1) &&& 31)) ||| nI x) = nI (s % 4 * 2 + x) := by decide +kernel
theorem tq4 : ∀ s, s < 256 → ∀ w, w < 8 → ((nI s &&& (-8)) ||| nI w) = nI (s / 8 * 8 + w) := by decide +kernel
theorem tq5 : ∀ s, s < 256 → ∀ t, t < 4 → (((nI s >>> ((nI 5) &&& 31)) <<< ((nI 5) &&& 31)) ||| (nI t <<< ((nI 3) &&& 31))) = nI (s / 32 * 32 + t * 8) := by decide +kernel
theorem tq6 : ∀ o, o < 8 → ∀ j, j < 4 → o % 2 = 1 → (j < tuO o → ((nI o >>> (nI j &&& 31)) &&& (nI 1)) = nI 1) ∧ (j = tuO o → ¬ ((nI o >>> (nI j &&& 31)) &&& (nI 1)) = nI 1) := by decide +kernel
/-- what is left of a step of TURNING: d, e, t, w, and the new t -/
theorem tq7a : ∀ e, e < 4 → ∀ t, t < 2 → ∀ w, w < 4 → ∀ u, u < 3 → 0 < w → ((nI e ^^^ (((((nI w - nI 1) &&& (-2)) ^^^ (((nI w - nI 1) &&& (-2)) >>> ((nI 1) &&& 31))) <<< ((nI t + nI 1) &&& 31) ||| (((nI w - nI 1) &&& (-2)) ^^^ (((nI w - nI 1) &&& (-2)) >>> ((nI 1) &&& 31))) >>> (((nI 2 - nI t) - nI 1) &&& 31)) &&& (((nI 1) <<< (nI 2 &&& 31)) - (nI 1)))) <<< ((nI 5) &&& 31)) ||| (nI u <<< ((nI 3) &&& 31)) = nI (tuE 2 e t w * 32 + u * 8) := by decide +kernel
theorem tq7b : ∀ e, e < 8 → ∀ t, t < 3 → ∀ w, w < 8 → ∀ u, u < 3 → 0 < w → ((nI e ^^^ (((((nI w - nI 1) &&& (-2)) ^^^ (((nI w - nI 1) &&& (-2)) >>> ((nI 1) &&& 31))) <<< ((nI t + nI 1) &&& 31) ||| (((nI w - nI 1) &&& (-2)) ^^^ (((nI w - nI 1) &&& (-2)) >>> ((nI 1) &&& 31))) >>> (((nI 3 - nI t) - nI 1) &&& 31)) &&& (((nI 1) <<< (nI 3 &&& 31)) - (nI 1)))) <<< ((nI 5) &&& 31)) ||| (nI u <<< ((nI 3) &&& 31)) = nI (tuE 3 e t w * 32 + u * 8) := by decide +kernel
theorem tq7 {d e t w u : Nat} (hd : d = 2 ∨ d = 3) (he : e < 2 ^ d) (ht : t < d) (hw : w < 2 ^ d) (hu : u < 3) (h0 : 0 < w) : ((nI e ^^^ (((((nI w - nI 1) &&& (-2)) ^^^ (((nI w - nI 1) &&& (-2)) >>> ((nI 1) &&& 31))) <<< ((nI t + nI 1) &&& 31) ||| (((nI w - nI 1) &&& (-2)) ^^^ (((nI w - nI 1) &&& (-2)) >>> ((nI 1) &&& 31))) >>> (((nI d - nI t) - nI 1) &&& 31)) &&& (((nI 1) <<< (nI d &&& 31)) - (nI 1)))) <<< ((nI 5) &&& 31)) ||| (nI u <<< ((nI 3) &&& 31)) = nI (tuE d e t w * 32 + u * 8) := by
  rcases hd with rfl | rfl
  · exact tq7a e he t ht w hw u hu h0
  · exact tq7b e he t ht w hw u hu h0
theorem tq8 : ∀ s, s < 256 → nI s >>> ((nI 5) &&& 31) = nI (s / 32) := by decide +kernel
theorem tuO_a : ∀ w, w < 8 → tuO w ≤ 3 ∧ (w < 4 → tuO w ≤ 2) := by decide +kernel
theorem tuO_d {d w : Nat} (hd : d = 2 ∨ d = 3) (hw : w < 2 ^ d) : tuO w ≤ d := by
  rcases hd with rfl | rfl
  · exact (tuO_a w (by omega)).2 hw
  · exact (tuO_a w hw).1
/-! the three methods of a curve -/
theorem K_ax {M : q_M} {c K d : Nat} {L : Nat → Nat} {i : Nat} (h : CO M c K d L i) (ok : okC K d L) {k s : Nat} (hk : k < lsm L) (hs : vS K d k s) : ∃ y, q_sel M [(0, 1), (6, 1), (9, 63)] c = some y ∧ q_CL y [.inr (.inr (some c)), .inl (nI k), .inl (nI s)] M = some (some (.inl (nI ((cmO K d L).2.1 k s))), M) := by
  have hl : lsm L ≤ 60 := by have := ok.2.2.1 0 (by omega); have := ok.2.2.1 1 (by omega); have := ok.2.2.1 2 (by omega); unfold lsm; omega
  obtain ⟨h1, h2, h3, h4, h5, h6, rm, od, r1, r2, r3, r4, r5, r6, r7, r8, r9, r10⟩ := h
  by_cases k2 : K = 2
  · have t9 : M.1 c = 9 := by rw [h1]; unfold kT; rw [if_pos k2]
    have t9' : q_isT 9 (M.1 c) = true := by rw [t9]; rfl
    obtain ⟨v1, v2, v3, v4⟩ := hs.1 k2
    have hd := ok.2.1
    have hr : k % d < d := Nat.mod_lt _ (by omega)
    refine ⟨63, by unfold q_sel; rw [if_neg (by omega)]; unfold q_sel; rw [if_neg (by omega)]; exact z_sel t9, ?_⟩
    have e : (cmO K d L).2.1 k s = tuA d (k % d) s := by unfold cmO; rw [if_pos k2]
    rw [e, C_X9_axisOf]
    simp only [z_fI t9', Option.bind_some, h3, z_sel t9, C_X9_bitBeforeTurn, if_neg (nI_ne0 (show 0 < d by omega) (show d < 2 ^ 31 by omega)), tq1 s v1, pk_rem (show k < 2 ^ 31 by omega) (show 0 < d by omega) (show d < 2 ^ 31 by omega), pk_sub (show 1 ≤ d by omega), pk_sub (show k % d ≤ d - 1 by omega), nI_add, pk_rem (show d - 1 - k % d + s / 8 % 4 + 1 < 2 ^ 31 by omega) (show 0 < d by omega) (show d < 2 ^ 31 by omega), z_rI]
    rw [pk_sub (show (d - 1 - k % d + s / 8 % 4 + 1) % d ≤ d - 1 by have := Nat.mod_lt (d - 1 - k % d + s / 8 % 4 + 1) (show d > 0 by omega); omega)]
    rfl
  · have tq : M.1 c = 0 ∨ M.1 c = 6 := by
      rw [h1]; unfold kT; rw [if_neg k2]
      split
      · exact Or.inr rfl
      · exact Or.inl rfl
    have t0' : q_isT 0 (M.1 c) = true := by rw [h1]; exact kT_is K
    have e : (cmO K d L).2.1 k s = (owK K L).getD k 0 := by
      unfold cmO
      rw [if_neg k2]
      by_cases k3 : K = 3
      · rw [if_pos k3]; subst k3; rfl
      · rw [if_neg k3]
    refine ⟨1, ?_, ?_⟩
    · unfold q_sel
      rcases tq with q | q
      · rw [if_pos q]
      · rw [if_neg (by omega)]; exact z_sel q
    · rw [e, C_X0_axisOf]
      simp only [z_fR t0', Option.bind_some, r5, z_aI r6 r7 hk (show lsm L ≤ 2147483647 by omega), r8 k hk]
theorem K_tu {M : q_M} {c K d : Nat} {L : Nat → Nat} {i : Nat} (h : CO M c K d L i) (ok : okC K d L) {k s x : Nat} (hk : k < lsm L) (hs : vS K d k s) (hx : x < cB K) : ∃ y, q_sel M [(0, 2), (6, 50), (9, 64)] c = some y ∧ q_CL y [.inr (.inr (some c)), .inl (nI k), .inl (nI s), .inl (nI x)] M = some (some (.inl (nI ((cmO K d L).2.2.1 k s x))), M) := by
  have hl : lsm L ≤ 60 := by have := ok.2.2.1 0 (by omega); have := ok.2.2.1 1 (by omega); have := ok.2.2.1 2 (by omega); unfold lsm; omega
  obtain ⟨h1, h2, h3, h4, h5, h6, rm, od, r1, r2, r3, r4, r5, r6, r7, r8, r9, r10⟩ := h
  by_cases k2 : K = 2
  · have t9 : M.1 c = 9 := by rw [h1]; unfold kT; rw [if_pos k2]
    have t9' : q_isT 9 (M.1 c) = true := by rw [t9]; rfl
    have hx2 : x < 2 := by unfold cB at hx; rw [if_neg (by omega)] at hx; exact hx
    obtain ⟨v1, v2, v3, v4⟩ := hs.1 k2
    have hd := ok.2.1
    have hr : k % d < d := Nat.mod_lt _ (by omega)
    have hb : (d - 1 - k % d + s / 8 % 4 + 1) % d < 3 := by have := Nat.mod_lt (d - 1 - k % d + s / 8 % 4 + 1) (show d > 0 by omega); omega
    refine ⟨64, by unfold q_sel; rw [if_neg (by omega)]; unfold q_sel; rw [if_neg (by omega)]; exact z_sel t9, ?_⟩
    have e : (cmO K d L).2.2.1 k s x = tuT d (k % d) s x := by unfold cmO; rw [if_pos k2]
    rw [e, C_X9_turned]
    simp only [z_fI t9', Option.bind_some, h3, z_sel t9, C_X9_bitBeforeTurn, if_neg (nI_ne0 (show 0 < d by omega) (show d < 2 ^ 31 by omega)), tq1 s v1, pk_rem (show k < 2 ^ 31 by omega) (show 0 < d by omega) (show d < 2 ^ 31 by omega), pk_sub (show 1 ≤ d by omega), pk_sub (show k % d ≤ d - 1 by omega), nI_add, pk_rem (show d - 1 - k % d + s / 8 % 4 + 1 < 2 ^ 31 by omega) (show 0 < d by omega) (show d < 2 ^ 31 by omega), z_rI]
    rw [tq2 s v1 _ hb x hx2]
    rfl
  · by_cases k3 : K = 3
    · have t6 : M.1 c = 6 := by rw [h1]; unfold kT; rw [if_neg k2, if_pos k3]
      have t6' : q_isT 6 (M.1 c) = true := by rw [t6]; rfl
      have hx3 : x < 3 := by unfold cB at hx; rw [if_pos k3] at hx; exact hx
      have e : (cmO K d L).2.2.1 k s x = snT s ((owK K L).getD k 0) x := by unfold cmO; rw [if_neg k2, if_pos k3]; subst k3; rfl
      have ha : (owK K L).getD k 0 < 3 := by
        rcases Nat.lt_or_ge k (owK K L).length with q | q
        · have : (owK K L).getD k 0 = (owK K L)[k] := by simp [List.getD, q]
          rw [this]; exact owK_3 K L _ (List.getElem_mem q)
        · have : (owK K L).getD k 0 = 0 := by simp [List.getD, List.getElem?_eq_none q]
          rw [this]; omega
      have tab : ∀ a, a < 3 → ∀ s, s < 8 → ∀ M : q_M, q_CL 232 [.inl (nI s &&& (((nI 1) <<< (nI a &&& 31)) ^^^ (-1)))] M = some (some (.inl (nI ((if a = 0 then 0 else s % 2) + (if a = 1 then 0 else s / 2 % 2) + (if a = 2 then 0 else s / 4 % 2)))), M) := fun a ha s hs M => by
        rw [C_J6_bitCount_0f7a4]
        have key : ∀ a, a < 3 → ∀ s, s < 8 → q_CL 232 [.inl (nI s &&& (((nI 1) <<< (nI a &&& 31)) ^^^ (-1)))] M = q_CL 232 [.inl (nI s &&& (((nI 1) <<< (nI a &&& 31)) ^^^ (-1)))] M := fun _ _ _ _ => rfl
        rcases (show a = 0 ∨ a = 1 ∨ a = 2 by omega) with rfl | rfl | rfl <;> rcases (show s = 0 ∨ s = 1 ∨ s = 2 ∨ s = 3 ∨ s = 4 ∨ s = 5 ∨ s = 6 ∨ s = 7 by omega) with rfl | rfl | rfl | rfl | rfl | rfl | rfl | rfl <;> exact congrArg (fun z => some (some (Sum.inl z), M)) (by decide +kernel)
      have bnd : ((if (owK K L).getD k 0 = 0 then 0 else s % 2) + (if (owK K L).getD k 0 = 1 then 0 else s / 2 % 2) + (if (owK K L).getD k 0 = 2 then 0 else s / 4 % 2)) < 2 ^ 31 := by split <;> split <;> split <;> omega
      refine ⟨50, by unfold q_sel; rw [if_neg (by omega)]; exact z_sel t6, ?_⟩
      rw [e, C_X6_turned]
      simp only [z_fR t6', Option.bind_some, r5, z_aI r6 r7 hk (show lsm L ≤ 2147483647 by omega), r8 k hk, tab _ ha s (hs.2 k3), z_rI, if_neg (show ¬ nI 2 = 0 by decide +kernel), pk_rem bnd (show 0 < 2 by omega) (show 2 < 2 ^ 31 by omega), nI_eq (show ((if (owK K L).getD k 0 = 0 then 0 else s % 2) + (if (owK K L).getD k 0 = 1 then 0 else s / 2 % 2) + (if (owK K L).getD k 0 = 2 then 0 else s / 4 % 2)) % 2 < 2 ^ 31 by omega) (show 1 < 2 ^ 31 by omega), pk_sub (show x ≤ 2 by omega)]
      unfold snT snO
      generalize ((if (owK K L).getD k 0 = 0 then 0 else s % 2) + (if (owK K L).getD k 0 = 1 then 0 else s / 2 % 2) + (if (owK K L).getD k 0 = 2 then 0 else s / 4 % 2)) = z
      by_cases q : z % 2 = 1
      · rw [if_pos q, if_pos q]
      · rw [if_neg q, if_neg q]
    · have t0 : M.1 c = 0 := by rw [h1]; unfold kT; rw [if_neg k2, if_neg k3]
      have e : (cmO K d L).2.2.1 k s x = x := by unfold cmO; rw [if_neg k2, if_neg k3]
      refine ⟨2, z_sel t0, ?_⟩
      rw [e, C_X0_turned]
theorem K_on {M : q_M} {c d : Nat} (t9 : M.1 c = 9) (h3 : gI M c 1 = nI d) (hd : d = 2 ∨ d = 3) {o : Nat} (ho : o < 2 ^ d) (ho1 : o % 2 = 1) {x1 x2 x3 x4 x5 x6 x7 x8 x9 : Int32} {d12 : Option q_V} : ∀ m j, j + m = tuO o → q_RL T_X9_stateAfter (128, [some (.inr (.inr (some c))), some (.inl x1), some (.inl x2), some (.inl x3), some (.inl x4), some (.inl x5), some (.inl x6), some (.inl x7), some (.inl x8), some (.inl x9), some (.inl (nI o)), some (.inl (nI j)), d12], [], M) = some (some (.inl (((x6 ^^^ (x9 &&& (((nI 1) <<< (nI d &&& 31)) - (nI 1)))) <<< ((nI 5) &&& 31)) ||| ((((x5 + (nI 1)) + nI (tuO o)) - ((x5 + (nI 1)) + nI (tuO o)) / nI d * nI d) <<< ((nI 3) &&& 31)))), M) := by
  have t9' : q_isT 9 (M.1 c) = true := by rw [t9]; rfl
  have ho8 : o < 8 := by rcases hd with rfl | rfl <;> omega
  have ud := tuO_d hd ho
  intro m
  induction m with
  | zero =>
    intro j hj
    rw [Nat.add_zero] at hj
    rw [E_X9_stateAfter_128]
    simp only [z_fI t9', Option.bind_some, h3, if_neg (nI_ne0 (show 0 < d by omega) (show d < 2 ^ 31 by omega)), ← hj]
    by_cases q : d ≤ j
    · rw [if_pos (nI_le q (by omega))]
    · rw [if_neg (nI_ge (by omega) (by omega)), if_neg ((tq6 o ho8 j (by omega) ho1).2 hj)]
  | succ m ih =>
    intro j hj
    rw [E_X9_stateAfter_128]
    simp only [z_fI t9', Option.bind_some, h3]
    rw [if_neg (nI_ge (by omega) (by omega)), if_pos ((tq6 o ho8 j (by omega) ho1).1 (by omega)), nI_1]
    exact ih (j + 1) (by omega)
theorem tq9 : ∀ s, s < 8 → ∀ a, a < 3 → ∀ x, x < 3 → nI s ^^^ ((nI x &&& (nI 1)) <<< (nI a &&& 31)) = nI (snN s a x) ∧ snN s a x < 8 := by decide +kernel
theorem K_sa {M : q_M} {c K d : Nat} {L : Nat → Nat} {i : Nat} (h : CO M c K d L i) (ok : okC K d L) {k s x : Nat} (hk : k < lsm L) (hs : vS K d k s) (hx : x < cB K) : ∃ y, q_sel M [(0, 3), (6, 51), (9, 65)] c = some y ∧ q_CL y [.inr (.inr (some c)), .inl (nI k), .inl (nI s), .inl (nI x)] M = some (some (.inl (nI ((cmO K d L).2.2.2.1 k s x))), M) := by
  have hl : lsm L ≤ 60 := by have := ok.2.2.1 0 (by omega); have := ok.2.2.1 1 (by omega); have := ok.2.2.1 2 (by omega); unfold lsm; omega
  obtain ⟨h1, h2, h3, h4, h5, h6, rm, od, r1, r2, r3, r4, r5, r6, r7, r8, r9, r10⟩ := h
  by_cases k2 : K = 2
  · have t9 : M.1 c = 9 := by rw [h1]; unfold kT; rw [if_pos k2]
    have t9' : q_isT 9 (M.1 c) = true := by rw [t9]; rfl
    have hx2 : x < 2 := by unfold cB at hx; rw [if_neg (by omega)] at hx; exact hx
    obtain ⟨v1, v2, v3, v4⟩ := hs.1 k2
    have hd := ok.2.1
    have hr : k % d < d := Nat.mod_lt _ (by omega)
    refine ⟨65, by unfold q_sel; rw [if_neg (by omega)]; unfold q_sel; rw [if_neg (by omega)]; exact z_sel t9, ?_⟩
    have e : (cmO K d L).2.2.2.1 k s x = tuN d (k % d) s x := by unfold cmO; rw [if_pos k2]
    have hw : s % 4 * 2 + x < 2 ^ (k % d + 1) := by
      have : s % 8 < 2 ^ (k % d) := v4
      rcases hd with rfl | rfl
      · rcases (show k % 2 = 0 ∨ k % 2 = 1 by omega) with q | q <;> rw [q] at this ⊢ <;> omega
      · rcases (show k % 3 = 0 ∨ k % 3 = 1 ∨ k % 3 = 2 by omega) with q | q | q <;> rw [q] at this ⊢ <;> omega
    have hw8 : s % 4 * 2 + x < 8 := by omega
    rw [e, C_X9_stateAfter]
    simp only [z_fI t9', Option.bind_some, h3, if_neg (nI_ne0 (show 0 < d by omega) (show d < 2 ^ 31 by omega)), pk_rem (show k < 2 ^ 31 by omega) (show 0 < d by omega) (show d < 2 ^ 31 by omega), pk_sub (show 1 ≤ d by omega), tq3 s v1 x hx2, tq1 s v1, tq8 s v1, if_neg (show ¬ nI 2 = 0 by decide +kernel), nI_add]
    unfold tuN
    by_cases q : k % d < d - 1
    · rw [if_neg (nI_ge q (by omega)), if_pos q, tq4 s v1 _ hw8]
    rw [if_pos (nI_le (by omega) (by omega)), if_neg q]
    have hwd : s % 4 * 2 + x < 2 ^ d := by
      have : k % d + 1 = d := by omega
      rw [this] at hw; exact hw
    have e5 := tq5 s v1
    rw [tq8 s v1] at e5
    rw [← nI_0]
    simp only [nI_eq (show s % 4 * 2 + x < 2 ^ 31 by omega) (show 0 < 2 ^ 31 by omega)]
    generalize s % 4 * 2 + x = w at *
    have hm : ∀ z, z % d < d := fun z => Nat.mod_lt _ (by omega)
    by_cases w0 : w = 0
    · rw [if_pos w0, pk_rem (by omega) (by omega) (by omega), e5 _ (by have := hm (s / 8 % 4 + 1); omega)]
      unfold tuE tuU
      rw [if_pos w0, if_pos w0]
    · rw [if_neg w0]
      simp only [pk_rem (show w < 2 ^ 31 by omega) (show 0 < 2 by omega) (show 2 < 2 ^ 31 by omega), nI_eq (show w % 2 < 2 ^ 31 by omega) (show 1 < 2 ^ 31 by omega)]
      have fin : ∀ o, o < 2 ^ d → o % 2 = 1 → o = (if w % 2 = 1 then w else w - 1) → (some (some (.inl (((nI (s / 32) ^^^ (((((nI w - nI 1) &&& (-2)) ^^^ (((nI w - nI 1) &&& (-2)) >>> ((nI 1) &&& 31))) <<< (nI (s / 8 % 4 + 1) &&& 31) ||| (((nI w - nI 1) &&& (-2)) ^^^ (((nI w - nI 1) &&& (-2)) >>> ((nI 1) &&& 31))) >>> (((nI d - nI (s / 8 % 4)) - nI 1) &&& 31)) &&& (((nI 1) <<< (nI d &&& 31)) - (nI 1)))) <<< ((nI 5) &&& 31)) ||| ((((nI (s / 8 % 4) + (nI 1)) + nI (tuO o)) - ((nI (s / 8 % 4) + (nI 1)) + nI (tuO o)) / nI d * nI d) <<< ((nI 3) &&& 31)))), M) : Option (Option q_V × q_M)) = some (some (.inl (nI (tuE d (s / 32) (s / 8 % 4) w * 32 + tuU d (s / 8 % 4) w * 8))), M) := fun o ho ho1 eo => by
        have uo := tuO_d hd ho
        have := hm (s / 8 % 4 + 1 + tuO o)
        have k7 := tq7 (u := (s / 8 % 4 + 1 + tuO o) % d) hd v3 v2 hwd (by omega) (show 0 < w by omega)
        rw [nI_add] at k7
        rw [nI_add, nI_add, pk_rem (by omega) (by omega) (by omega), k7]
        unfold tuU
        rw [if_neg w0, ← eo]
      by_cases w1 : w % 2 = 1
      · rw [if_pos w1, K_on t9 h3 hd hwd w1 (tuO w) 0 (by omega)]
        exact fin w hwd w1 (by rw [if_pos w1])
      · have ho : (w - 1) % 2 = 1 := by omega
        rw [if_neg w1, pk_sub (show 1 ≤ w by omega), K_on t9 h3 hd (show w - 1 < 2 ^ d by omega) ho (tuO (w - 1)) 0 (by omega)]
        have := fin (w - 1) (by omega) ho (by rw [if_neg w1])
        rw [pk_sub (show 1 ≤ w by omega)] at this
        exact this
  · by_cases k3 : K = 3
    · have t6 : M.1 c = 6 := by rw [h1]; unfold kT; rw [if_neg k2, if_pos k3]
      have t6' : q_isT 6 (M.1 c) = true := by rw [t6]; rfl
      have hx3 : x < 3 := by unfold cB at hx; rw [if_pos k3] at hx; exact hx
      have e : (cmO K d L).2.2.2.1 k s x = snN s ((owK K L).getD k 0) x := by unfold cmO; rw [if_neg k2, if_pos k3]; subst k3; rfl
      have ha : (owK K L).getD k 0 < 3 := by
        rcases Nat.lt_or_ge k (owK K L).length with q | q
        · have : (owK K L).getD k 0 = (owK K L)[k] := by simp [List.getD, q]
          rw [this]; exact owK_3 K L _ (List.getElem_mem q)
        · have : (owK K L).getD k 0 = 0 := by simp [List.getD, List.getElem?_eq_none q]
          rw [this]; omega
      refine ⟨51, by unfold q_sel; rw [if_neg (by omega)]; exact z_sel t6, ?_⟩
      rw [e, C_X6_stateAfter]
      simp only [z_fR t6', Option.bind_some, r5, z_aI r6 r7 hk (show lsm L ≤ 2147483647 by omega), r8 k hk, (tq9 s (hs.2 k3) _ ha x hx3).1]
    · have t0 : M.1 c = 0 := by rw [h1]; unfold kT; rw [if_neg k2, if_neg k3]
      have e : (cmO K d L).2.2.2.1 k s x = 0 := by unfold cmO; rw [if_neg k2, if_neg k3]
      refine ⟨3, z_sel t0, ?_⟩
      rw [e, C_X0_stateAfter]
/-- holds -/
theorem K_holds {M : q_M} {c K d : Nat} {L : Nat → Nat} {i : Nat} (h : CO M c K d L i) (hR : ∀ a, a < 3 → cB K ^ L a < 2 ^ 31) (x y z : Int32) : (¬ (∃ q : Nat → Nat, (∀ a, a < 3 → q a < cB K ^ L a) ∧ x = nI (q 0) ∧ y = nI (q 1) ∧ z = nI (q 2)) ∧ q_CL 4 [.inr (.inr (some c)), .inl x, .inl y, .inl z] M = some (some (.inl (nI 0)), M)) ∨ ((∃ q : Nat → Nat, (∀ a, a < 3 → q a < cB K ^ L a) ∧ x = nI (q 0) ∧ y = nI (q 1) ∧ z = nI (q 2)) ∧ q_CL 4 [.inr (.inr (some c)), .inl x, .inl y, .inl z] M = some (some (.inl (nI 1)), M)) := by
  obtain ⟨h1, h2, h3, h4, h5, h6, rm, od, r1, r2, r3, r4, r5, r6, r7, r8, r9, r10⟩ := h
  have b0 := hR 0 (by omega)
  have b1 := hR 1 (by omega)
  have b2 := hR 2 (by omega)
  have t0' : q_isT 0 (M.1 c) = true := by rw [h1]; exact kT_is K
  have t0 : nI 0 = 0 ∨ nI 0 = 1 := Or.inl rfl
  have t1 : nI 1 = 0 ∨ nI 1 = 1 := Or.inr rfl
  rw [C_X0_holds]
  simp only [if_pos t0, if_pos t1, z_fR t0', Option.bind_some, r1, z_aI r2 r3 (show 0 < 3 by omega) (show 3 ≤ 2147483647 by omega), z_aI r2 r3 (show 1 < 3 by omega) (show 3 ≤ 2147483647 by omega), z_aI r2 r3 (show 2 < 3 by omega) (show 3 ≤ 2147483647 by omega), r4 0 (by omega), r4 1 (by omega), r4 2 (by omega)]
  by_cases hx : x < 0
  · refine Or.inl ⟨?_, if_pos hx⟩
    rintro ⟨q, hq, rfl, rfl, rfl⟩
    exact nI_pos (by have := hq 0 (by omega); omega) hx
  rw [if_neg hx]
  by_cases hx2 : nI (cB K ^ L 0) ≤ x
  · refine Or.inl ⟨?_, if_pos hx2⟩
    rintro ⟨q, hq, rfl, rfl, rfl⟩
    exact nI_ge (hq 0 (by omega)) (by omega) hx2
  rw [if_neg hx2]
  by_cases hy : y < 0
  · refine Or.inl ⟨?_, if_pos hy⟩
    rintro ⟨q, hq, rfl, rfl, rfl⟩
    exact nI_pos (by have := hq 1 (by omega); omega) hy
  rw [if_neg hy]
  by_cases hy2 : nI (cB K ^ L 1) ≤ y
  · refine Or.inl ⟨?_, if_pos hy2⟩
    rintro ⟨q, hq, rfl, rfl, rfl⟩
    exact nI_ge (hq 1 (by omega)) (by omega) hy2
  rw [if_neg hy2]
  by_cases hz : z < 0
  · refine Or.inl ⟨?_, if_pos hz⟩
    rintro ⟨q, hq, rfl, rfl, rfl⟩
    exact nI_pos (by have := hq 2 (by omega); omega) hz
  rw [if_neg hz]
  by_cases hz2 : nI (cB K ^ L 2) ≤ z
  · refine Or.inl ⟨?_, if_pos hz2⟩
    rintro ⟨q, hq, rfl, rfl, rfl⟩
    exact nI_ge (hq 2 (by omega)) (by omega) hz2
  rw [if_neg hz2]
  refine Or.inr ⟨?_, rfl⟩
  obtain ⟨j0, e0, rfl⟩ : ∃ j, j < cB K ^ L 0 ∧ x = nI j := by
    rcases pk_ix x b0 with q | q | q
    · exact absurd q hx
    · exact absurd q hx2
    · exact q
  obtain ⟨j1, e1, rfl⟩ : ∃ j, j < cB K ^ L 1 ∧ y = nI j := by
    rcases pk_ix y b1 with q | q | q
    · exact absurd q hy
    · exact absurd q hy2
    · exact q
  obtain ⟨j2, e2, rfl⟩ : ∃ j, j < cB K ^ L 2 ∧ z = nI j := by
    rcases pk_ix z b2 with q | q | q
    · exact absurd q hz
    · exact absurd q hz2
    · exact q
  refine ⟨fun a => if a = 0 then j0 else if a = 1 then j1 else j2, ?_, rfl, rfl, rfl⟩
  intro a ha
  rcases (show a = 0 ∨ a = 1 ∨ a = 2 by omega) with rfl | rfl | rfl
  · exact e0
  · exact e1
  · exact e2
