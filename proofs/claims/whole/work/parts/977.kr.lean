/-! ===== THE CLASS: cells are made ===== -/
/-- what was there stays but for P; at most n cells and s slots are new -/
def FB (P : Nat → Prop) (n s : Nat) (M M1 : q_M) : Prop := gN M ≤ gN M1 ∧ gN M1 ≤ gN M + n ∧ gS M1 ≤ gS M + s ∧ (∀ a, a < gN M → M1.1 a = M.1 a ∧ M1.2.1 a = M.2.1 a) ∧ (∀ a k, a < gN M → ¬ P a → gI M1 a k = gI M a k ∧ gL M1 a k = gL M a k ∧ gR M1 a k = gR M a k) ∧ ∀ a k, q_isc a k = true → gR M1 a k = gR M a k
theorem FC.fb {P : Nat → Prop} {M M1 : q_M} (f : FC P M M1) : FB P 0 0 M M1 := by
  have n : gN M1 = gN M := by unfold gN; rw [f.2.2.1]
  have s : gS M1 = gS M := by unfold gS; rw [f.2.2.1]
  exact ⟨by omega, by omega, by omega, fun a _ => ⟨by rw [f.1], by rw [f.2.1]⟩, fun a k _ p => f.2.2.2.1 a k p, f.2.2.2.2⟩
theorem FB.rf (P : Nat → Prop) (M : q_M) : FB P 0 0 M M := (FC.rf P M).fb
theorem FB.tr {P Q : Nat → Prop} {n s n2 s2 : Nat} {M M1 M2 : q_M} (a : FB P n s M M1) (b : FB Q n2 s2 M1 M2) (h : ∀ x, x < gN M → Q x → P x) : FB P (n + n2) (s + s2) M M2 := by
  obtain ⟨a1, a2, a3, a4, a5, a6⟩ := a
  obtain ⟨b1, b2, b3, b4, b5, b6⟩ := b
  refine ⟨by omega, by omega, by omega, fun x hx => ?_, fun x k hx hp => ?_, fun x k hx => (b6 x k hx).trans (a6 x k hx)⟩
  · obtain ⟨c1, c2⟩ := a4 x hx
    obtain ⟨d1, d2⟩ := b4 x (by omega)
    exact ⟨d1.trans c1, d2.trans c2⟩
  · obtain ⟨c1, c2, c3⟩ := a5 x k hx hp
    obtain ⟨d1, d2, d3⟩ := b5 x k (by omega) (fun q => hp (h x hx q))
    exact ⟨d1.trans c1, d2.trans c2, d3.trans c3⟩
theorem FB.wk {P Q : Nat → Prop} {n s n2 s2 : Nat} {M M1 : q_M} (f : FB P n s M M1) (h : ∀ a, a < gN M → P a → Q a) (hn : n ≤ n2) (hs : s ≤ s2) : FB Q n2 s2 M M1 := by
  obtain ⟨a1, a2, a3, a4, a5, a6⟩ := f
  exact ⟨a1, by omega, by omega, a4, fun a k ha q => a5 a k ha (fun z => q (h a ha z)), a6⟩
theorem FB.sh {P : Nat → Prop} {n s : Nat} {M M1 : q_M} (f : FB P n s M M1) (h : SH M) : SH M1 := by
  obtain ⟨a1, a2, a3, a4, a5, a6⟩ := f
  obtain ⟨h1, h2, h3, h4⟩ := h
  refine ⟨fun a ha => (a4 a (by omega)).1.trans (h1 a ha), fun a h0 ha => (a4 a (by omega)).2.trans (h2 a h0 ha), fun e he => ?_, by omega⟩
  rw [a6 e.1 e.2.1]
  · exact h3 e he
  · unfold q_isc
    rw [List.any_eq_true]
    exact ⟨e, he, by rw [Nat.beq_refl, Nat.beq_refl]; rfl⟩
theorem FB.kp {P : Nat → Prop} {n s : Nat} {M M1 : q_M} (f : FB P n s M M1) (g : 63 ≤ gN M) (h : ∀ a, a < gN M → P a → a < 63 ∧ a ≠ 23) : KP M M1 := by
  obtain ⟨a1, a2, a3, a4, a5, a6⟩ := f
  refine ⟨fun x hx => ?_, fun x hx => ?_⟩
  · obtain ⟨h1, h2, h3⟩ := hx
    refine ⟨h1, by omega, fun p b hp hb => ?_⟩
    rw [(a5 23 p (by omega) (fun z => (h 23 (by omega) z).2 rfl)).2.2] at hb
    exact h3 p b hp hb
  · obtain ⟨h1, h2, h3⟩ := hx
    exact ⟨(a4 x h2).1, (a4 x h2).2, fun k => a5 x k h2 (fun z => by have := (h x h2 z).1; omega)⟩
/-- images lie below what is next -/
def IB (M : q_M) : Prop := ∀ p b, p < 2 → gR M 23 p = some b → 63 ≤ b ∧ b + 21 ≤ gN M
theorem FB.ib {P : Nat → Prop} {n s : Nat} {M M1 : q_M} (f : FB P n s M M1) (g : 63 ≤ gN M) (h : ¬ P 23) (i : IB M) : IB M1 := fun p b hp hb => by
  rw [(f.2.2.2.2.1 23 p (by omega) h).2.2] at hb
  have := i p b hp hb
  have := f.1
  omega
theorem ST_new {P : Nat → Prop} {n s : Nat} {M M1 : q_M} (f : FB P n s M M1) (g : 63 ≤ gN M) (h : ¬ P 23) (i : IB M) {a : Nat} (h1 : gN M ≤ a) (h2 : a < gN M1) : ST M1 a := by
  refine ⟨by omega, h2, fun p b hp hb => ?_⟩
  rw [(f.2.2.2.2.1 23 p (by omega) h).2.2] at hb
  have := i p b hp hb
  omega
/-! one cell is born -/
theorem gN_d (M : q_M) : M.2.2.2.2.2.1 = gN M := rfl
theorem n_born (M : q_M) (t n : Nat) : gN (q_born M t n) = gN M + 1 := rfl
theorem s_born (M : q_M) (t n : Nat) : gS (q_born M t n) = gS M + n := rfl
theorem t_bornS (M : q_M) (t n : Nat) : (q_born M t n).1 (gN M) = t := va_up_self _ _ _
theorem l_born (M : q_M) (t n : Nat) : (q_born M t n).2.1 (gN M) = n := va_up_self _ _ _
theorem t_bornx {M : q_M} {t n a : Nat} (h : a ≠ gN M) : (q_born M t n).1 a = M.1 a := va_up_ne _ _ h
theorem l_bornx {M : q_M} {t n a : Nat} (h : a ≠ gN M) : (q_born M t n).2.1 a = M.2.1 a := va_up_ne _ _ h
theorem gI_bornx {M : q_M} {t n a k : Nat} (h : a ≠ gN M) : gI (q_born M t n) a k = gI M a k := congrFun (va_up_ne _ _ h) k
theorem gL_bornx {M : q_M} {t n a k : Nat} (h : a ≠ gN M) : gL (q_born M t n) a k = gL M a k := congrFun (va_up_ne _ _ h) k
theorem gR_bornx {M : q_M} {t n a k : Nat} (h : a ≠ gN M) : gR (q_born M t n) a k = gR M a k := congrFun (va_up_ne _ _ h) k
theorem gI_born (M : q_M) (t n k : Nat) : gI (q_born M t n) (gN M) k = 0 := congrFun (va_up_self _ _ _) k
theorem gL_born (M : q_M) (t n k : Nat) : gL (q_born M t n) (gN M) k = 0 := congrFun (va_up_self _ _ _) k
theorem gR_born (M : q_M) (t n k : Nat) : gR (q_born M t n) (gN M) k = none := congrFun (va_up_self _ _ _) k
theorem isc_lt {a k : Nat} (h : q_isc a k = true) : a < 63 := by
  apply Classical.byContradiction
  intro z
  rw [isc_63 (by omega)] at h
  cases h
theorem FB.born (P : Nat → Prop) (M : q_M) (g : 63 ≤ gN M) (t n : Nat) : FB P 1 n M (q_born M t n) := ⟨by rw [n_born]; omega, by rw [n_born]; omega, by rw [s_born]; omega, fun a ha => ⟨t_bornx (by omega), l_bornx (by omega)⟩, fun a k ha _ => ⟨gI_bornx (by omega), gL_bornx (by omega), gR_bornx (by omega)⟩, fun a k h => gR_bornx (by have := isc_lt h; omega)⟩
theorem z_new {M : q_M} {t n : Nat} (h1 : gN M ≤ 600000) (h2 : gS M + n ≤ 7302250) : q_new M t n = some (q_born M t n) := if_pos ⟨h1, h2⟩
theorem z_newA {M : q_M} {t n : Nat} (hn : n < 2 ^ 31) (h1 : gN M ≤ 600000) (h2 : gS M + n ≤ 7302250) : q_newA M t (nI n) = some (q_born M t n) := by
  unfold q_newA
  rw [if_pos (nI_pos' hn), nI_clamp hn]
  exact z_new h1 h2
theorem RWx.kp {M M1 : q_M} {r ps sz : Nat} {v : Nat → Nat} {o : Nat} (h : RWx M r ps sz v o) (s1 : ST M r) (s2 : ST M ps) (s3 : ST M sz) (k : KP M M1) : RWx M1 r ps sz v o := by
  obtain ⟨h1, h2, h3, h4, h5, h6, h7, h8, h9, h10, h11, h12, h13⟩ := h
  obtain ⟨a1, a2, a3⟩ := k.2 r s1
  obtain ⟨b1, b2, b3⟩ := k.2 ps s2
  obtain ⟨c1, c2, c3⟩ := k.2 sz s3
  refine ⟨a1.trans h1, (a3 0).2.2.trans h2, (a3 1).2.2.trans h3, b1.trans h4, c1.trans h5, by rw [b2]; exact h6, by rw [b2]; exact h7, by rw [c2]; exact h8, by rw [c2]; exact h9, (a3 2).1.trans h10, (a3 3).1.trans h11, fun p hp => ?_, fun x hx => (c3 x).1.trans (h13 x hx)⟩
  obtain ⟨c, x1, x2⟩ := h12 p hp
  exact ⟨c, (b3 p).2.2.trans x1, x2.kp k⟩
/-- the loops that copy a row -/
theorem K_rn {N : q_M} {r ps sz ro po zo c : Nat} {v : Nat → Nat} {o : Nat} (h : SH N) (w : RWx N ro po zo v o) (hm : v (o + 2) ≤ 300) (hP : v (o + 3) ≤ 300) (hc : c ≤ 40) (t1 : N.1 r = 3) (e0 : gR N r 0 = some ps) (e1 : gR N r 1 = some sz) (tp : N.1 ps = 18) (tz : N.1 sz = 14) (lp : N.2.1 ps = v (o + 2) + c) (lz : N.2.1 sz = v (o + 3) + c) (i2 : gI N r 2 = nI (v (o + 2))) (i3 : gI N r 3 = nI (v (o + 3))) (d1 : po ≠ ps) (d2 : zo ≠ sz) (g63 : 63 ≤ r ∧ 63 ≤ ps ∧ 63 ≤ sz) : ∃ M1, q_RL T_X3_init_ (57, [some (.inr (.inr (some r))), some (.inr (.inr (some ro))), some (.inl (nI c)), some (.inl (nI 0))], [], N) = some (none, M1) ∧ FC (dra r ps sz) N M1 ∧ RWx M1 r ps sz v o := by
  have n1 : r ≠ ps := fun e => by rw [e] at t1; omega
  have n2 : r ≠ sz := fun e => by rw [e] at t1; omega
  have n3 : ps ≠ sz := fun e => by rw [e] at tp; omega
  have n23 : ¬ dra r ps sz 23 := fun z => by rcases z with z | z | z <;> omega
  have w0 := w
  obtain ⟨h1, h2, h3, h4, h5, h6, h7, h8, h9, h10, h11, h12, h13⟩ := w
  have k1 : ro ≠ ps := fun e => by rw [e] at h1; omega
  have k2 : ro ≠ sz := fun e => by rw [e] at h1; omega
  have k3 : zo ≠ ps := fun e => by rw [e] at h5; omega
  have k4 : po ≠ sz := fun e => by rw [e] at h4; omega
  have key85 : ∀ n j, j + n = v (o + 3) → ∀ A, FC (fun a => a = ps ∨ a = sz) N A → (∀ x, x < v (o + 2) → gR A ps x = gR N po x) → (∀ a k, a ≠ sz → gI A a k = gI N a k) → (∀ x, x < j → gI A sz x = nI (v (o + 1804 + x))) → ∃ M1, q_RL T_X3_init_ (85, [some (.inr (.inr (some r))), some (.inr (.inr (some ro))), some (.inl (nI c)), some (.inl (nI j))], [], A) = some (none, M1) ∧ FC (dra r ps sz) N M1 ∧ RWx M1 r ps sz v o := by
    intro n
    induction n with
    | zero =>
      intro j hj A f a1 a2 a3
      have fA : FC (dra r ps sz) N A := f.wk (fun a e => Or.inr e)
      have tr : q_isT 3 (A.1 r) = true := by rw [f.1, t1]; rfl
      have nr : ¬ (fun a => a = ps ∨ a = sz) r := fun e => by rcases e with e | e; exact n1 e; exact n2 e
      have e3 : gI A r 3 = nI (v (o + 3)) := (a2 r 3 n2).trans i3
      refine ⟨A, ?_, fA, by rw [f.1]; exact t1, ((f.2.2.2.1 r 0 nr).2.2).trans e0, ((f.2.2.2.1 r 1 nr).2.2).trans e1, by rw [f.1]; exact tp, by rw [f.1]; exact tz, by rw [f.2.1, lp]; omega, by rw [f.2.1, lp]; omega, by rw [f.2.1, lz]; omega, by rw [f.2.1, lz]; omega, (a2 r 2 n2).trans i2, e3, fun p hp => ?_, fun x hx => a3 x (by omega)⟩
      · rw [E_X3_init__85]
        simp only [z_fI tr, e3, Option.bind_some]
        rw [if_pos (nI_le (by omega) (by omega))]
      · obtain ⟨d, y1, y2⟩ := h12 p hp
        refine ⟨d, (a1 p hp).trans y1, y2.fc fA n23 (fun z => ?_)⟩
        have t2 := y2.1
        rcases z with z | z | z
        · rw [z] at t2; omega
        · rw [z] at t2; omega
        · rw [z] at t2; omega
    | succ n ih =>
      intro j hj A f a1 a2 a3
      have tr : q_isT 3 (A.1 r) = true := by rw [f.1, t1]; rfl
      have tro : q_isT 3 (A.1 ro) = true := by rw [f.1, h1]; rfl
      have nr : ¬ (fun a => a = ps ∨ a = sz) r := fun e => by rcases e with e | e; exact n1 e; exact n2 e
      have nro : ¬ (fun a => a = ps ∨ a = sz) ro := fun e => by rcases e with e | e; exact k1 e; exact k2 e
      have e3 : gI A r 3 = nI (v (o + 3)) := (a2 r 3 n2).trans i3
      have x1 : gR A r 1 = some sz := ((f.2.2.2.1 r 1 nr).2.2).trans e1
      have x2 : gR A ro 1 = some zo := ((f.2.2.2.1 ro 1 nro).2.2).trans h3
      have x3 : gI A zo j = nI (v (o + 1804 + j)) := (a2 zo j d2).trans (h13 j (by omega))
      obtain ⟨M1, u1, u2, u3⟩ := ih (j + 1) (by omega) (stI A sz j (nI (v (o + 1804 + j)))) (f.sI (Or.inr rfl)) a1 (fun a k ha => (gI_oth (fun e => ha e.1)).trans (a2 a k ha)) (fun x hx => by
        rw [gI_stI]
        by_cases e : x = j
        · rw [if_pos ⟨rfl, e⟩, e]
        · rw [if_neg (fun z => e z.2)]; exact a3 x (by omega))
      refine ⟨M1, ?_, u2, u3⟩
      rw [E_X3_init__85]
      simp only [z_fI tr, e3, Option.bind_some]
      rw [if_neg (nI_ge (by omega) (by omega))]
      simp only [z_fR tr, x1, Option.bind_some, z_fR tro, x2, z_aI (show A.1 zo = 14 by rw [f.1]; exact h5) (show A.2.1 zo = N.2.1 zo by rw [f.2.1]) (show j < N.2.1 zo by omega) (show N.2.1 zo ≤ 2147483647 by omega), x3, z_bI (show A.1 sz = 14 by rw [f.1]; exact tz) (show A.2.1 sz = v (o + 3) + c by rw [f.2.1]; exact lz) (show j < v (o + 3) + c by omega) (show v (o + 3) + c ≤ 2147483647 by omega), nI_1]
      exact u1
  have key57 : ∀ n j, j + n = v (o + 2) → ∀ A, FC (fun a => a = ps) N A → (∀ x, x < j → gR A ps x = gR N po x) → (∀ a k, gI A a k = gI N a k) → ∃ M1, q_RL T_X3_init_ (57, [some (.inr (.inr (some r))), some (.inr (.inr (some ro))), some (.inl (nI c)), some (.inl (nI j))], [], A) = some (none, M1) ∧ FC (dra r ps sz) N M1 ∧ RWx M1 r ps sz v o := by
    intro n
    induction n with
    | zero =>
      intro j hj A f a1 a2
      have tr : q_isT 3 (A.1 r) = true := by rw [f.1, t1]; rfl
      obtain ⟨M1, u1, u2, u3⟩ := key85 (v (o + 3)) 0 (by omega) A (f.wk (fun a e => Or.inl e)) (fun x hx => a1 x (by omega)) (fun a k _ => a2 a k) (fun x hx => by omega)
      refine ⟨M1, ?_, u2, u3⟩
      rw [E_X3_init__57]
      simp only [z_fI tr, (a2 r 2).trans i2, Option.bind_some]
      rw [if_pos (nI_le (by omega) (by omega))]
      exact u1
    | succ n ih =>
      intro j hj A f a1 a2
      have tr : q_isT 3 (A.1 r) = true := by rw [f.1, t1]; rfl
      have tro : q_isT 3 (A.1 ro) = true := by rw [f.1, h1]; rfl
      have x1 : gR A r 0 = some ps := ((f.2.2.2.1 r 0 n1).2.2).trans e0
      have x2 : gR A ro 0 = some po := ((f.2.2.2.1 ro 0 k1).2.2).trans h2
      obtain ⟨d, y1, y2⟩ := h12 j (by omega)
      have x3 : gR A po j = some d := ((f.2.2.2.1 po j d1).2.2).trans y1
      have tp' : A.1 ps = 18 := by rw [f.1]; exact tp
      have tpo : A.1 po = 18 := by rw [f.1]; exact h4
      have may : q_may A (A.1 ps) (some d) = true := by rw [tp']; show Nat.beq (A.1 d) 2 = true; rw [f.1, y2.1]; rfl
      obtain ⟨M1, u1, u2, u3⟩ := ih (j + 1) (by omega) (stR A ps j (some d)) (f.sR rfl (isc_63 g63.2.1)) (fun x hx => by
        rw [gR_stR]
        by_cases e : x = j
        · rw [if_pos ⟨rfl, e⟩, e]; exact y1.symm
        · rw [if_neg (fun z => e z.2)]; exact a1 x (by omega)) a2
      refine ⟨M1, ?_, u2, u3⟩
      rw [E_X3_init__57]
      simp only [z_fI tr, (a2 r 2).trans i2, Option.bind_some]
      rw [if_neg (nI_ge (by omega) (by omega))]
      simp only [z_fR tr, x1, Option.bind_some, z_fR tro, x2, z_aR (show 17 ≤ A.1 po ∧ A.1 po ≤ 22 by omega) (show A.2.1 po = N.2.1 po by rw [f.2.1]) (show j < N.2.1 po by omega) (show N.2.1 po ≤ 2147483647 by omega), x3, z_bR (v := some d) ⟨show 17 ≤ A.1 ps by omega, show A.1 ps ≤ 21 by omega, may⟩ (show A.2.1 ps = v (o + 2) + c by rw [f.2.1]; exact lp) (show j < v (o + 2) + c by omega) (show v (o + 2) + c ≤ 2147483647 by omega), nI_1]
      exact u1
  exact key57 (v (o + 2)) 0 (by omega) N (FC.rf _ N) (fun x hx => by omega) (fun _ _ => rfl)
