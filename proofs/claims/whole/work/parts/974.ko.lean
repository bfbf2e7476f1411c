/-! ===== THE CLASS: a point comes to a row in the making ===== -/
theorem isc_63 {a k : Nat} (h : 63 ≤ a) : q_isc a k = false := by
  unfold q_isc
  rw [List.any_eq_false]
  intro e he
  have : ∀ e ∈ q_crs, e.1 < 63 := by decide
  have := this e he
  intro z
  rw [Bool.and_eq_true] at z
  have := Nat.eq_of_beq_eq_true z.1
  omega
theorem PO.cg {M : q_M} {c : Nat} {P Q : Nat → Nat} (h : PO M c P) (e : ∀ t, t < 6 → Q t = P t) : PO M c Q := by
  obtain ⟨q1, q2, q3, q4, q5, q6, q7, q8⟩ := h
  exact ⟨q1, q2.trans (congrArg nI (e 0 (by omega)).symm), q3.trans (congrArg lN (e 5 (by omega)).symm), q4.trans (congrArg nI (e 1 (by omega)).symm), q5.trans (congrArg nI (e 2 (by omega)).symm), q6.trans (congrArg nI (e 3 (by omega)).symm), q7.trans (congrArg nI (e 4 (by omega)).symm), q8⟩
def shU (M : q_M) (ps i m x : Nat) : Option Nat := if i < x ∧ x ≤ m then gR M ps (x - 1) else gR M ps x
def ahd (C Q : Nat → Nat) : Prop := C 5 < Q 5 ∨ (C 5 = Q 5 ∧ C 0 < Q 0)
theorem K_ahd {M : q_M} {c d : Nat} {P Q : Nat → Nat} (h : PO M c P) (k : PO M d Q) (h5 : P 5 < 2 ^ 62) (k5 : Q 5 < 2 ^ 62) (h0 : P 0 < 2 ^ 31) (k0 : Q 0 < 2 ^ 31) : (ahd P Q → q_CL 16 [.inr (.inr (some c)), .inr (.inr (some d))] M = some (some (.inl (nI 1)), M)) ∧ (¬ ahd P Q → q_CL 16 [.inr (.inr (some c)), .inr (.inr (some d))] M = some (some (.inl (nI 0)), M)) := by
  have e := K_ahead h k h5 k5 h0 k0
  unfold ahd
  exact ⟨fun a => by rw [e, if_pos a], fun a => by rw [e, if_neg a]⟩
theorem K_cm31 {M0 : q_M} {r ps sz : Nat} {v : Nat → Nat} {o : Nat} (w : RWx M0 r ps sz v o) (sh : SH M0) (hm : v (o + 2) < 300) (l1 : v (o + 2) < M0.2.1 ps) (g63 : 63 ≤ ps) {c p : Nat} {C : Nat → Nat} (pc : PO M0 c C) (c5 : C 5 < 2 ^ 62) (c0 : C 0 < 2 ^ 31) (hb : ∀ y, y < v (o + 2) → v (o + 4 + 6 * y + 5) < 2 ^ 62 ∧ v (o + 4 + 6 * y) < 2 ^ 31) (b1 : ∀ y, p ≤ y → y < v (o + 2) → ahd C (fun t => v (o + 4 + 6 * y + t))) (b2 : 0 < p → ¬ ahd C (fun t => v (o + 4 + 6 * (p - 1) + t))) (d3 : Option q_V) : ∀ n i, i = p + n → i ≤ v (o + 2) → ∀ M, FC (fun a => a = ps) M0 M → (∀ x, gR M ps x = shU M0 ps i (v (o + 2)) x) → (∀ a k, a ≠ ps → gR M a k = gR M0 a k) → (∀ a k, gI M a k = gI M0 a k) → ∃ M1, q_RL T_X3_come (31, [some (.inr (.inr (some r))), some (.inr (.inr (some c))), some (.inl (nI i)), d3], [], M) = q_RL T_X3_come (70, [some (.inr (.inr (some r))), some (.inr (.inr (some c))), some (.inl (nI p)), d3], [], M1) ∧ FC (fun a => a = ps) M0 M1 ∧ (∀ x, gR M1 ps x = shU M0 ps p (v (o + 2)) x) ∧ (∀ a k, gI M1 a k = gI M0 a k) := by
  obtain ⟨n1, n2, n3⟩ := w.nd
  have w0 := w
  obtain ⟨h1, h2, h3, h4, h5, h6, h7, h8, h9, h10, h11, h12, h13⟩ := w
  have t23 : ¬ 23 = ps := fun e => by omega
  have tc : ¬ c = ps := fun e => by have := pc.1; rw [e] at this; omega
  intro n
  induction n with
  | zero =>
    intro i hi hm2 M f a1 a2 a3
    rw [Nat.add_zero] at hi
    subst hi
    refine ⟨M, ?_, f, a1, a3⟩
    have tr : q_isT 3 (M.1 r) = true := by rw [f.1, h1]; rfl
    have tp : M.1 ps = 18 := by rw [f.1]; exact h4
    rw [E_X3_come_31]
    by_cases c00 : i = 0
    · subst c00
      rw [nI_0, if_pos (by decide)]
    rw [if_neg (nI_nle (by omega) (by omega))]
    obtain ⟨y, y1, y2⟩ := h12 (i - 1) (by omega)
    have ty : ¬ y = ps := fun e => by have := y2.1; rw [e] at this; omega
    have e0 : gR M r 0 = some ps := by rw [a2 r 0 n1]; exact h2
    have e1 : gR M ps (i - 1) = some y := by rw [a1]; unfold shU; rw [if_neg (by omega)]; exact y1
    have pm := pc.fc f t23 tc
    have ym := y2.fc f t23 ty
    have hbb := hb (i - 1) (by omega)
    have hA := (K_ahd pm ym c5 hbb.1 c0 hbb.2).2 (b2 (by omega))
    simp only [z_fR tr, e0, Option.bind_some, pk_sub (show 1 ≤ i by omega), z_aR (show 17 ≤ M.1 ps ∧ M.1 ps ≤ 22 by omega) rfl (show i - 1 < M.2.1 ps by rw [f.2.1]; omega) (show M.2.1 ps ≤ 2147483647 by rw [f.2.1]; omega), e1, z_sel pm.1, hA, z_rI]
    rw [if_pos nI_0]
  | succ n ih =>
    intro i hi hm2 M f a1 a2 a3
    have tr : q_isT 3 (M.1 r) = true := by rw [f.1, h1]; rfl
    have tp : M.1 ps = 18 := by rw [f.1]; exact h4
    obtain ⟨y, y1, y2⟩ := h12 (i - 1) (by omega)
    have ty : ¬ y = ps := fun e => by have := y2.1; rw [e] at this; omega
    have e0 : gR M r 0 = some ps := by rw [a2 r 0 n1]; exact h2
    have e1 : gR M ps (i - 1) = some y := by rw [a1]; unfold shU; rw [if_neg (by omega)]; exact y1
    have pm := pc.fc f t23 tc
    have ym := y2.fc f t23 ty
    have hbb := hb (i - 1) (by omega)
    have hA := (K_ahd pm ym c5 hbb.1 c0 hbb.2).1 (b1 (i - 1) (by omega) (by omega))
    have may : q_may M (M.1 ps) (some y) = true := by rw [tp]; show Nat.beq (M.1 y) 2 = true; rw [ym.1]; rfl
    obtain ⟨M1, u1, u2, u3, u4⟩ := ih (i - 1) (by omega) (by omega) (stR M ps i (some y)) (f.sR rfl (isc_63 g63)) (fun x => by
      rw [gR_stR]
      unfold shU
      by_cases z : x = i
      · rw [if_pos ⟨rfl, z⟩, if_pos (by omega), z]; exact y1.symm
      · rw [if_neg (fun e => z e.2), a1]
        unfold shU
        by_cases z2 : i < x ∧ x ≤ v (o + 2)
        · rw [if_pos z2, if_pos (by omega)]
        · rw [if_neg z2, if_neg (by omega)]) (fun a k ha => by rw [gR_stR, if_neg (fun e => ha e.1)]; exact a2 a k ha) a3
    refine ⟨M1, ?_, u2, u3, u4⟩
    rw [E_X3_come_31, if_neg (nI_nle (by omega) (by omega))]
    have ei : nI i + (-1) = nI (i - 1) := by rw [show i = i - 1 + 1 by omega, pk_m1]; rfl
    simp only [z_fR tr, e0, Option.bind_some, pk_sub (show 1 ≤ i by omega), z_aR (show 17 ≤ M.1 ps ∧ M.1 ps ≤ 22 by omega) rfl (show i - 1 < M.2.1 ps by rw [f.2.1]; omega) (show M.2.1 ps ≤ 2147483647 by rw [f.2.1]; omega), e1, z_sel pm.1, hA, z_rI]
    rw [if_neg (show ¬ nI 1 = 0 by decide +kernel)]
    simp only [Option.bind_some, z_bR (v := some y) ⟨show 17 ≤ M.1 ps by omega, show M.1 ps ≤ 21 by omega, may⟩ rfl (show i < M.2.1 ps by rw [f.2.1]; omega) (show M.2.1 ps ≤ 2147483647 by rw [f.2.1]; omega), ei]
    exact u1
def cmZz (z : Nat → Nat) (g x : Nat) : Nat := if z g + 1 = 17 then (if x < g then z x else if x = g then 9 else if x = g + 1 then 8 else z (x - 1)) else if x = g then z g + 1 else z x
theorem K_cm123 {M : q_M} {r sz P : Nat} {z u : Nat → Nat} {o : Nat} (h : SZ M r sz z P) (hP : P < M.2.1 sz) (hP2 : P < 300) {g p k c : Nat} (hg : g < P) (hz : ∀ x, x < P → z x ≤ 16) (u3 : u (o + 3) = if z g + 1 = 17 then P + 1 else P) (uz : ∀ x, x < u (o + 3) → u (o + 1804 + x) = cmZz z g x) (hk : k < u (o + 3)) (k1 : psm u o k ≤ p) (k2 : p < psm u o (k + 1)) (hb : psm u o (u (o + 3)) < 2 ^ 30) (hkg : z g + 1 ≠ 17 → k = g) (d3 : Option q_V) : ∃ M1, q_RL T_X3_come (123, [some (.inr (.inr (some r))), some (.inr (.inr (some c))), some (.inl (nI p)), d3], [.inl (nI g)], M) = some (some (.inl (nI k)), M1) ∧ fr (szf r sz) M M1 ∧ SZ M1 r sz (fun x => u (o + 1804 + x)) (u (o + 3)) := by
  have hg16 := hz g hg
  have hw := h.w (k := g) (n := z g + 1)
  have h4 := h.2.2.2.1
  have ew : wZ z g (z g + 1) g = z g + 1 := if_pos rfl
  rw [E_X3_come_123]
  simp only [h.f1, Option.bind_some, h.g hg, nI_add, h.b (show g < M.2.1 sz by omega), hw.f1, hw.g hg, ew]
  by_cases c17 : z g + 1 = 17
  · rw [if_pos (nI_lt (by omega) (by omega))]
    obtain ⟨M1, w1, w2, w3⟩ := K_part hw hP hg (ew.trans c17)
    rw [if_pos c17] at u3
    have w4 : SZ M1 r sz (fun x => u (o + 1804 + x)) (u (o + 3)) := by
      rw [u3]
      refine w3.cg (fun x hx => ?_)
      show u (o + 1804 + x) = _
      rw [uz x (by rw [u3]; exact hx)]
      unfold cmZz ptZ wZ
      rw [if_pos c17]
      by_cases x1 : x < g
      · rw [if_pos x1, if_pos x1, if_neg (by omega)]
      rw [if_neg x1, if_neg x1]
      by_cases x2 : x = g
      · rw [if_pos x2, if_pos x2]
      rw [if_neg x2, if_neg x2]
      by_cases x3 : x = g + 1
      · rw [if_pos x3, if_pos x3]
      rw [if_neg x3, if_neg x3, if_neg (by omega)]
    refine ⟨M1, ?_, ((fr.rf _ M).st (Or.inl rfl)).tr w2, w4⟩
    simp only [z_sel hw.1, Option.bind_some, w1, z_rV, z_sel w3.1, K_pgZ w4 (by rw [u3]; omega) hk k1 k2 hb, z_rI]
  · rw [if_neg (nI_nlt (by omega) (by omega))]
    rw [if_neg c17] at u3
    refine ⟨_, by rw [hkg c17], (fr.rf _ M).st (Or.inl rfl), ?_⟩
    rw [u3]
    refine hw.cg (fun x hx => ?_)
    show u (o + 1804 + x) = _
    rw [uz x (by rw [u3]; exact hx)]
    unfold cmZz wZ
    rw [if_neg c17]
