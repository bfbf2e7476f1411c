/-! ===== THE REFERENCE: spans ===== -/
/-- ints off scratch, longs off the cells A are as before -/
def FL (A : Nat → Prop) (M M1 : q_M) : Prop := M1.1 = M.1 ∧ M1.2.1 = M.2.1 ∧ M1.2.2.2.2 = M.2.2.2.2 ∧ (∀ a k, ¬ scr a k → gI M1 a k = gI M a k) ∧ ∀ a k, ¬ A a → gL M1 a k = gL M a k
theorem FL.rf (A : Nat → Prop) (M : q_M) : FL A M M := ⟨rfl, rfl, rfl, fun _ _ _ => rfl, fun _ _ _ => rfl⟩
theorem FL.tr {A : Nat → Prop} {M M1 M2 : q_M} (a : FL A M M1) (b : FL A M1 M2) : FL A M M2 := ⟨b.1.trans a.1, b.2.1.trans a.2.1, b.2.2.1.trans a.2.2.1, fun x k h => (b.2.2.2.1 x k h).trans (a.2.2.2.1 x k h), fun x k h => (b.2.2.2.2 x k h).trans (a.2.2.2.2 x k h)⟩
theorem FL.of {A : Nat → Prop} {M M1 : q_M} (f : FM M M1) : FL A M M1 := ⟨f.1, f.2.1, by rw [f.2.2.1], f.2.2.2, fun a k _ => f.gl a k⟩
theorem FL.st {A : Nat → Prop} {M M1 : q_M} (f : FL A M M1) {a k : Nat} {x : Int64} (h : A a) : FL A M (stL M1 a k x) := by
  refine ⟨f.1, f.2.1, f.2.2.1, f.2.2.2.1, fun b j hb => ?_⟩
  rw [gL_stL]
  by_cases e : b = a ∧ j = k
  · obtain ⟨rfl, rfl⟩ := e
    exact absurd h hb
  · rw [if_neg e]; exact f.2.2.2.2 b j hb
theorem FL.wk {A B : Nat → Prop} {M M1 : q_M} (f : FL A M M1) (h : ∀ a, A a → B a) : FL B M M1 := ⟨f.1, f.2.1, f.2.2.1, f.2.2.2.1, fun a k q => f.2.2.2.2 a k fun p => q (h a p)⟩
theorem FL.sh {A : Nat → Prop} {M M1 : q_M} (f : FL A M M1) (h : SH M) : SH M1 := by
  obtain ⟨a, b, c, _⟩ := f
  unfold SH gR gN at *
  rw [a, b, c]; exact h
theorem FL.ri {A : Nat → Prop} {M M1 : q_M} (f : FL A M M1) (h : ¬ A 50) {v : Nat → Nat} (r : RI M v) : RI M1 v := by
  intro i h1 h2
  rw [f.2.2.2.2 50 i h]; exact r i h1 h2
theorem FL.wi {A : Nat → Prop} {M M1 : q_M} (f : FL A M M1) (h : ¬ A 50) {w : Nat → Int32} (r : WI M w) : WI M1 w := fun j hj => by rw [f.2.2.2.2 50 _ h]; exact r j hj
theorem gL_self {M : q_M} {a k : Nat} {x : Int64} : gL (stL M a k x) a k = x := by rw [gL_stL, if_pos ⟨rfl, rfl⟩]
theorem gL_oth {M : q_M} {a k b j : Nat} {x : Int64} (h : ¬ (b = a ∧ j = k)) : gL (stL M a k x) b j = gL M b j := by rw [gL_stL, if_neg h]
theorem m_sp {M : q_M} (h : SH M) : q_fR M 12 49 12 = some (some 58) := m_fR h (by decide)
theorem m_a58 {M : q_M} (h : SH M) {k : Nat} (hk : k < 402) : q_aL M 58 (nI k) = some (gL M 58 k) := y_aL h (by omega) (by omega) rfl hk (by decide)
theorem m_b58 {M : q_M} (h : SH M) {k : Nat} {x : Int64} (hk : k < 402) : q_bL M 58 (nI k) x = some (stL M 58 k x) := y_bL h (by omega) (by omega) rfl hk (by decide)
/-- the spans of a property, from f on -/
def spL (P : Nat → Prop) (S : Nat) : Nat → List (Nat × Nat) → Prop
  | f, [] => ∀ n, f ≤ n → n < S → ¬ P n
  | f, (a, b) :: t => f ≤ a ∧ a ≤ b ∧ b < S ∧ (∀ n, f ≤ n → n < a → ¬ P n) ∧ (∀ n, a ≤ n → n ≤ b → P n) ∧ (b + 1 < S → ¬ P (b + 1)) ∧ spL P S (b + 1) t
theorem spL_uniq {P : Nat → Prop} {S : Nat} : ∀ (l l2 : List (Nat × Nat)) (f : Nat), spL P S f l → spL P S f l2 → l = l2
  | [], [], _, _, _ => rfl
  | [], (a, b) :: t, f, h, h2 => absurd (h2.2.2.2.2.1 a (Nat.le_refl a) h2.2.1) (h a h2.1 (by have := h2.2.1; have := h2.2.2.1; omega))
  | (a, b) :: t, [], f, h, h2 => absurd (h.2.2.2.2.1 a (Nat.le_refl a) h.2.1) (h2 a h.1 (by have := h.2.1; have := h.2.2.1; omega))
  | (a, b) :: t, (c, d) :: t2, f, h, h2 => by
    obtain ⟨a1, a2, a3, a4, a5, a6, a7⟩ := h
    obtain ⟨b1, b2, b3, b4, b5, b6, b7⟩ := h2
    have e1 : a = c := by
      rcases Nat.lt_trichotomy a c with q | q | q
      · exact absurd (a5 a (Nat.le_refl a) a2) (b4 a a1 q)
      · exact q
      · exact absurd (b5 c (Nat.le_refl c) b2) (a4 c b1 q)
    subst e1
    have e2 : b = d := by
      rcases Nat.lt_trichotomy b d with q | q | q
      · exact absurd (b5 (b + 1) (by omega) (by omega)) (a6 (by omega))
      · exact q
      · exact absurd (a5 (d + 1) (by omega) (by omega)) (b6 (by omega))
    subst e2
    rw [spL_uniq t t2 (b + 1) a7 b7]
theorem spL_ex (P : Nat → Prop) (S : Nat) : ∀ m f, S ≤ f + m → ∃ l, spL P S f l := by
  intro m
  induction m with
  | zero => intro f h; exact ⟨[], fun n h1 h2 => by omega⟩
  | succ m ih =>
    intro f h
    by_cases e : ∃ n, f ≤ n ∧ n < S ∧ P n
    · obtain ⟨a, ⟨a1, a2, a3⟩, am⟩ := pk_least (fun n => f ≤ n ∧ n < S ∧ P n) e
      by_cases e2 : ∃ n, a < n ∧ n < S ∧ ¬ P n
      · obtain ⟨b, ⟨b1, b2, b3⟩, bm⟩ := pk_least (fun n => a < n ∧ n < S ∧ ¬ P n) e2
        obtain ⟨t, ht⟩ := ih b (by omega)
        refine ⟨(a, b - 1) :: t, a1, by omega, by omega, fun n n1 n2 hp => am n n2 ⟨n1, by omega, hp⟩, fun n n1 n2 => ?_, fun _ => by rw [show b - 1 + 1 = b by omega]; exact b3, by rw [show b - 1 + 1 = b by omega]; exact ht⟩
        by_cases q : n = a
        · rw [q]; exact a3
        · exact Classical.byContradiction fun hp => bm n (by omega) ⟨by omega, by omega, hp⟩
      · refine ⟨[(a, S - 1)], a1, by omega, by omega, fun n n1 n2 hp => am n n2 ⟨n1, by omega, hp⟩, fun n n1 n2 => ?_, fun q => by omega, fun n n1 n2 => by omega⟩
        by_cases q : n = a
        · rw [q]; exact a3
        · exact Classical.byContradiction fun hp => e2 ⟨n, by omega, by omega, hp⟩
    · exact ⟨[], fun n h1 h2 hp => e ⟨n, h1, h2, hp⟩⟩
def SPr (M : q_M) (l : List (Nat × Nat)) : Prop := ∀ t, t < l.length → gL M 58 (2 * t) = lN (l.getD t (0, 0)).1 ∧ gL M 58 (2 * t + 1) = lN (l.getD t (0, 0)).2
theorem getD_app2 {l : List (Nat × Nat)} {x : Nat × Nat} {k : Nat} (hk : k < l.length + 1) : (l ++ [x]).getD k (0, 0) = if k = l.length then x else l.getD k (0, 0) := by
  by_cases h : k = l.length
  · rw [if_pos h, h, List.getD_eq_getElem?_getD, List.getElem?_append_right (Nat.le_refl _), Nat.sub_self]; rfl
  · rw [if_neg h, List.getD_eq_getElem?_getD, List.getElem?_append_left (by omega), ← List.getD_eq_getElem?_getD]
theorem SPr.push {M M1 : q_M} {l : List (Nat × Nat)} (s : SPr M l) {a b : Nat} (h : ∀ k, k < 2 * l.length → gL M1 58 k = gL M 58 k) (ha : gL M1 58 (2 * l.length) = lN a) (hb : gL M1 58 (2 * l.length + 1) = lN b) : SPr M1 (l ++ [(a, b)]) := by
  intro t ht
  rw [List.length_append, List.length_singleton] at ht
  rw [getD_app2 ht]
  by_cases e : t = l.length
  · rw [if_pos e, e]; exact ⟨ha, hb⟩
  · rw [if_neg e, h _ (by omega), h _ (by omega)]; exact s t (by omega)
theorem wP_01 {v : Nat → Nat} {i : Nat} {wl wh : Nat → Nat} {n : Nat} : wP v i 0 wl wh n ↔ ¬ wP v i 1 wl wh n := by
  constructor
  · rintro (⟨q, _⟩ | ⟨_, q⟩)
    · omega
    · rintro (⟨_, p⟩ | ⟨p, _⟩)
      · exact q p
      · omega
  · intro q
    exact Or.inr ⟨rfl, fun p => q (Or.inl ⟨rfl, p⟩)⟩
theorem m1_neg : (-1 : Int64) < lN 0 := by decide +kernel
theorem ln_nn {n : Nat} (h : n < 2 ^ 63) : lN 0 ≤ lN n := (pk_lLE (by omega) h).mpr (Nat.zero_le n)
theorem R_sp28 {v : Nat → Nat} (wc : WC v) {i : Nat} (hi0 : i < v 0) {w : Nat → Int32} {wl wh : Nat → Nat} (hw : isW v i w wl wh) : ∀ m f q l M d4 d5 d6 d7, cS v i ≤ f + m → f ≤ cS v i → SH M → RI M v → WI M w → Nx (wP v i 1 wl wh) (cS v i) f q → l.length ≤ 200 → SPr M l → ∃ l2 M1, spL (wP v i 1 wl wh) (cS v i) f l2 ∧ FL (fun a => a = 58) M M1 ∧ ((l.length + l2.length ≤ 200 ∧ SPr M1 (l ++ l2) ∧ ∃ c4, q_RL T_X12_spans (28, [some (.inr (.inr (some 49))), some (.inl (nI i)), some (.inl (nI l.length)), some (.inr (.inl (rL q))), d4, d5, d6, d7], [], M) = q_RL T_X12_spans (127, [some (.inr (.inr (some 49))), some (.inl (nI i)), some (.inl (nI (l ++ l2).length)), some (.inr (.inl (-1))), c4, some (.inr (.inl (lN 1))), none, some (.inl (nI 0))], [], M1)) ∨ (200 < l.length + l2.length ∧ q_RL T_X12_spans (28, [some (.inr (.inr (some 49))), some (.inl (nI i)), some (.inl (nI l.length)), some (.inr (.inl (rL q))), d4, d5, d6, d7], [], M) = some (some (.inl (-2)), M1))) := by
  have w0 := wc.1
  have hc := wc.2 i hi0
  have c61 := cS_62 hc
  have fin : ∀ f l M d4 d5 d6 d7, Nx (wP v i 1 wl wh) (cS v i) f none → l.length ≤ 200 → SPr M l → ∃ l2 M1, spL (wP v i 1 wl wh) (cS v i) f l2 ∧ FL (fun a => a = 58) M M1 ∧ ((l.length + l2.length ≤ 200 ∧ SPr M1 (l ++ l2) ∧ ∃ c4, q_RL T_X12_spans (28, [some (.inr (.inr (some 49))), some (.inl (nI i)), some (.inl (nI l.length)), some (.inr (.inl (rL none))), d4, d5, d6, d7], [], M) = q_RL T_X12_spans (127, [some (.inr (.inr (some 49))), some (.inl (nI i)), some (.inl (nI (l ++ l2).length)), some (.inr (.inl (-1))), c4, some (.inr (.inl (lN 1))), none, some (.inl (nI 0))], [], M1)) ∨ (200 < l.length + l2.length ∧ q_RL T_X12_spans (28, [some (.inr (.inr (some 49))), some (.inl (nI i)), some (.inl (nI l.length)), some (.inr (.inl (rL none))), d4, d5, d6, d7], [], M) = some (some (.inl (-2)), M1))) := by
    intro f l M d4 d5 d6 d7 nx hl sp
    refine ⟨[], M, nx, FL.rf _ M, Or.inl ⟨by rw [List.length_nil]; omega, by rw [List.append_nil]; exact sp, q_kill d4, ?_⟩⟩
    rw [E_X12_spans_28, List.append_nil]
    simp only [lg_cmp_lt]
    rw [if_pos (show rL none < lN 0 from m1_neg)]
    rfl
  intro m
  induction m with
  | zero =>
    intro f q l M d4 d5 d6 d7 hm hf h r wi nx hl sp
    cases q with
    | none => exact fin f l M d4 d5 d6 d7 nx hl sp
    | some a => have := nx.1; have := nx.2.1; omega
  | succ m ih =>
    intro f q l M d4 d5 d6 d7 hm hf h r wi nx hl sp
    cases q with
    | none => exact fin f l M d4 d5 d6 d7 nx hl sp
    | some a =>
      obtain ⟨x1, x2, x3, x4⟩ := nx
      rw [E_X12_spans_28]
      simp only [lg_cmp_lt, lg_cmp_ge]
      rw [if_neg (show ¬ rL (some a) < lN 0 from l_neg (by omega))]
      by_cases hx : l.length = 200
      · obtain ⟨l2, hl2⟩ := spL_ex (wP v i 1 wl wh) (cS v i) (cS v i) f (by omega)
        refine ⟨l2, M, hl2, FL.rf _ M, Or.inr ⟨?_, ?_⟩⟩
        · cases l2 with
          | nil => exact absurd x3 (hl2 a x1 x2)
          | cons c t => rw [List.length_cons]; omega
        · rw [if_pos (by rw [hx])]
      · rw [if_neg (fun q => hx ((nI_eq (by omega) (by omega)).mp q))]
        have hlen : l.length < 200 := by omega
        obtain ⟨q0, M1, p1, p2, p3⟩ := R_next wc hi0 hw (Or.inl rfl) (f := a) (by omega) h r wi
        have h1 := p2.sh h
        have hA : SH (stL M1 58 (2 * l.length) (lN a)) := h1
        have fA : FL (fun a => a = 58) M (stL M1 58 (2 * l.length) (lN a)) := (FL.of p2).st rfl
        have p1' : q_CL 167 [.inr (.inr (some 49)), .inl (nI i), .inr (.inl (rL (some a))), .inl (nI 0)] M = some (some (.inr (.inl (rL q0))), M1) := p1
        simp only [m_sel h, Option.bind_some, p1', z_rL, m_sp h1, pk_mul, m_b58 h1 (show 2 * l.length < 402 by omega), m_sp hA, nI_add]
        have hA' : SH (stL M1 58 (2 * l.length) (rL (some a))) := h1
        simp only [m_sp hA', Option.bind_some]
        have fA' : FL (fun a => a = 58) M (stL M1 58 (2 * l.length) (rL (some a))) := fA
        have keep : ∀ x k, k < 2 * l.length → gL (stL (stL M1 58 (2 * l.length) (rL (some a))) 58 (2 * l.length + 1) x) 58 k = gL M 58 k := fun x k hk => by
          rw [gL_oth (by omega), gL_oth (by omega), p2.gl]
        have cons : ∀ (b : Nat) (t : List (Nat × Nat)), a ≤ b → b < cS v i → (∀ n, a ≤ n → n ≤ b → wP v i 1 wl wh n) → (b + 1 < cS v i → ¬ wP v i 1 wl wh (b + 1)) → spL (wP v i 1 wl wh) (cS v i) (b + 1) t → spL (wP v i 1 wl wh) (cS v i) f ((a, b) :: t) := fun b t b1 b2 b3 b4 b5 => ⟨x1, b1, b2, fun n n1 n2 => x4 n n1 n2, b3, b4, b5⟩
        have app : ∀ (b : Nat) (t : List (Nat × Nat)), l ++ (a, b) :: t = (l ++ [(a, b)]) ++ t := fun b t => by rw [List.append_assoc]; rfl
        have lapp : ∀ b : Nat, (l ++ [(a, b)]).length = l.length + 1 := fun b => by rw [List.length_append, List.length_singleton]
        cases q0 with
        | none =>
          have esz : q_CL 148 [.inr (.inr (some 49)), .inl (nI i)] (stL M1 58 (2 * l.length) (rL (some a))) = some (some (.inr (.inl (lN (cS v i)))), stL M1 58 (2 * l.length) (rL (some a))) := by
            rcases R_size hA' (fA'.ri (by omega) r) wc (nI i) with ⟨q, _⟩ | ⟨i2, hi2, q, e3⟩
            · exact absurd ⟨i, hi0, rfl⟩ q
            · have : i = i2 := (nI_eq (by omega) (by omega)).mp q
              subst this
              exact e3
          have ng : ¬ lN 0 ≤ rL none := by decide +kernel
          simp only [ng, reduceIte, m_sel hA', Option.bind_some, esz, z_rL, lN_sub (show 1 ≤ cS v i by omega), m_b58 hA' (show 2 * l.length + 1 < 402 by omega), nI_1]
          have f2 : FL (fun a => a = 58) M (stL (stL M1 58 (2 * l.length) (rL (some a))) 58 (2 * l.length + 1) (lN (cS v i - 1))) := fA'.st rfl
          obtain ⟨l2, M2, u1, u2, u3⟩ := fin (cS v i) (l ++ [(a, cS v i - 1)]) (stL (stL M1 58 (2 * l.length) (rL (some a))) 58 (2 * l.length + 1) (lN (cS v i - 1))) none (some (.inr (.inl (rL none)))) none d7 (fun n n1 n2 => by omega) (by rw [lapp]; omega) (sp.push (keep _) (by rw [gL_oth (by omega), gL_self]; rfl) gL_self)
          rw [lapp, ← app] at u3
          refine ⟨(a, cS v i - 1) :: l2, M2, cons _ _ (by omega) (by omega) (fun n n1 n2 => Classical.byContradiction fun q => p3 n n1 (by omega) (wP_01.mpr q)) (fun q => by omega) (by rw [show cS v i - 1 + 1 = cS v i by omega]; exact u1), f2.tr u2, ?_⟩
          rw [List.length_cons, show l.length + (l2.length + 1) = l.length + 1 + l2.length by omega]
          exact u3
        | some e =>
          obtain ⟨y1, y2, y3, y4⟩ := p3
          have ha : a < e := by
            rcases Nat.lt_or_ge a e with q | q
            · exact q
            · have : e = a := by omega
              subst this
              exact absurd x3 (wP_01.mp y3)
          have nn : lN 0 ≤ rL (some e) := ln_nn (by omega)
          have es : rL (some e) - lN 1 = lN (e - 1) := lN_sub (by omega)
          have hB : SH (stL (stL M1 58 (2 * l.length) (rL (some a))) 58 (2 * l.length + 1) (lN (e - 1))) := h1
          have f2 : FL (fun a => a = 58) M (stL (stL M1 58 (2 * l.length) (rL (some a))) 58 (2 * l.length + 1) (lN (e - 1))) := fA'.st rfl
          obtain ⟨q1, M2, t1, t2, t3⟩ := R_next wc hi0 hw (Or.inr rfl) (f := e) (by omega) hB (f2.ri (by omega) r) (f2.wi (by omega) wi)
          have t1' : q_CL 167 [.inr (.inr (some 49)), .inl (nI i), .inr (.inl (rL (some e))), .inl (nI 1)] (stL (stL M1 58 (2 * l.length) (rL (some a))) 58 (2 * l.length + 1) (lN (e - 1))) = some (some (.inr (.inl (rL q1))), M2) := t1
          simp only [nn, reduceIte, es, Option.bind_some, m_b58 hA' (show 2 * l.length + 1 < 402 by omega), m_sel hB, t1', z_rL, nI_1]
          have f3 := f2.tr (FL.of t2)
          obtain ⟨l2, M3, u1, u2, u3⟩ := ih e q1 (l ++ [(a, e - 1)]) M2 none (some (.inr (.inl (rL (some e))))) none d7 (by omega) (by omega) (f3.sh h) (f3.ri (by omega) r) (f3.wi (by omega) wi) t3 (by rw [lapp]; omega) (sp.push (fun k hk => by rw [t2.gl]; exact keep _ k hk) (by rw [t2.gl, gL_oth (by omega), gL_self]; rfl) (by rw [t2.gl, gL_self]))
          rw [lapp, ← app] at u3
          refine ⟨(a, e - 1) :: l2, M3, cons _ _ (by omega) (by omega) (fun n n1 n2 => Classical.byContradiction fun q => y4 n n1 (by omega) (wP_01.mpr q)) (fun _ => by rw [show e - 1 + 1 = e by omega]; exact wP_01.mp y3) (by rw [show e - 1 + 1 = e by omega]; exact u1), f3.tr u2, ?_⟩
          rw [List.length_cons, show l.length + (l2.length + 1) = l.length + 1 + l2.length by omega]
          exact u3
