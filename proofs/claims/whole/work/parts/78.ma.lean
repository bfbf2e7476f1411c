/-! ===== THE REFERENCE: the next number ===== -/
def wP (v : Nat → Nat) (i o : Nat) (wl wh : Nat → Nat) (n : Nat) : Prop := (o = 1 ∧ inw wl wh (plI v i n)) ∨ (o = 0 ∧ ¬ inw wl wh (plI v i n))
theorem ask_iff {v : Nat → Nat} {i : Nat} (hc : okI v i) {w : Nat → Int32} {wl wh : Nat → Nat} (hw : isW v i w wl wh) {o : Nat} {f p : Nat} (hf : f ≤ mI v i) (hp : p < bI v i ^ f) : askP o wl wh (bx (cmI v i) (dI v i f) p) ↔ ∃ n, n < cS v i ∧ n / bI v i ^ (mI v i - f) = p ∧ wP v i o wl wh n := by
  have e : (cmI v i).1 ^ (lsm (cL v i) - dI v i f) = bI v i ^ (mI v i - f) := by
    rw [← pw_dI]
    have := dI_add v i f (mI v i - f)
    rw [show f + (mI v i - f) = mI v i by omega, dI_mI hc] at this
    rw [show lsm (cL v i) - dI v i f = dI v i (mI v i - f) by omega]
  have e1 := mtw_iff (gdI hc) (dI_le hc hf) (p := p) (by rw [pw_dI]; exact hp) (lo := wl) (hi := wh) (fun a ha => (hw a ha).2.2.1)
  have e2 := nin_iff (gdI hc) (dI_le hc hf) (p := p) (by rw [pw_dI]; exact hp) (lo := wl) (hi := wh)
  rw [e, ← (cS_pw hc).1] at e1 e2
  constructor
  · rintro (⟨rfl, q⟩ | ⟨rfl, q⟩)
    · obtain ⟨n, a, b, c⟩ := e1.mp q
      exact ⟨n, a, b, Or.inl ⟨rfl, c⟩⟩
    · obtain ⟨n, a, b, c⟩ := e2.mp q
      exact ⟨n, a, b, Or.inr ⟨rfl, c⟩⟩
  · rintro ⟨n, a, b, (⟨rfl, c⟩ | ⟨rfl, c⟩)⟩
    · exact Or.inl ⟨rfl, e1.mpr ⟨n, a, b, c⟩⟩
    · exact Or.inr ⟨rfl, e2.mpr ⟨n, a, b, c⟩⟩
theorem dv_up {B P t e : Nat} (ht : t < B) : (P * B + t) / B ^ (e + 1) = P / B ^ e := by
  have e1 : (P * B + t) / B = P := by rw [Nat.mul_comm P B, Nat.mul_add_div (by omega), Nat.div_eq_of_lt ht, Nat.add_zero]
  rw [Nat.pow_succ', ← Nat.div_div_eq_div_mul, e1]
theorem dv_pw (n B a b : Nat) : n / B ^ (a + b) = n / B ^ a / B ^ b := by rw [Nat.pow_add, Nat.div_div_eq_div_mul]
/-- digits of a number -/
def dgI (v : Nat → Nat) (i n k : Nat) : Nat := n / bI v i ^ (mI v i - 1 - k) % bI v i
theorem dgI_lt {v : Nat → Nat} {i : Nat} (hc : okI v i) (n k : Nat) : dgI v i n k < bI v i := Nat.mod_lt _ (by have := bI_b hc; omega)
theorem dgI_jn {v : Nat → Nat} {i : Nat} (hc : okI v i) {n : Nat} (hn : n < cS v i) {f : Nat} (hf : f ≤ mI v i) : jn (bI v i) (dgI v i n) f = n / bI v i ^ (mI v i - f) :=
  jn_dg (by have := bI_b hc; omega) (by rw [← (cS_pw hc).2]; exact hn) f hf
theorem dgI_s {v : Nat → Nat} {i : Nat} (hc : okI v i) {n : Nat} (hn : n < cS v i) {k : Nat} (hk : k < mI v i) : n / bI v i ^ (mI v i - (k + 1)) = n / bI v i ^ (mI v i - k) * bI v i + dgI v i n k := by
  rw [← dgI_jn hc hn (by omega), ← dgI_jn hc hn (by omega)]; rfl
/-- the frame of the search -/
def nsc (a k : Nat) : Prop := a = 54 ∨ bsc a k
theorem nsc_scr (a k : Nat) (h : nsc a k) : scr a k := by
  rcases h with h | h
  · exact s54 a k h
  · exact bsc_scr a k h
theorem nsc_ly (a k : Nat) (h : nsc a k) : ¬ (a = 49 ∧ (k = 3 ∨ k = 4)) ∧ a ≠ 53 := by
  rcases h with h | h
  · omega
  · exact bsc_ly a k h
theorem fr.wi {P : Nat → Nat → Prop} {M M1 : q_M} (f : fr P M M1) {w : Nat → Int32} (h : WI M w) : WI M1 w := fun j hj => by rw [f.gl]; exact h j hj
/-- a digit is set, and the box behind it made -/
theorem R_setbox {M : q_M} {v : Nat → Nat} (h : SH M) (r : RI M v) {i : Nat} (hi : i < 8) (hc : okI v i) (l : LYr M (cK v i) (cD v i) (cL v i)) {k t : Nat} (hk : k < mI v i) (ht : t < bI v i) {g : Nat → Nat} (hg : ∀ j, j < k → gI M 54 j = nI (g j) ∧ g j < bI v i) : ∃ M2, q_CL 154 [.inr (.inr (some 49)), .inl (nI i), .inl (nI (k + 1))] (stI M 54 k (nI t)) = some (none, M2) ∧ fr nsc M M2 ∧ (∀ j, j ≠ k → gI M2 54 j = gI M 54 j) ∧ gI M2 54 k = nI t ∧ BXf M2 (bx (cmI v i) (dI v i (k + 1)) (jn (bI v i) g k * bI v i + t)).1 (bx (cmI v i) (dI v i (k + 1)) (jn (bI v i) g k * bI v i + t)).2.1 := by
  have hA : SH (stI M 54 k (nI t)) := h
  have fA : fr nsc M (stI M 54 k (nI t)) := (fr.rf _ M).st (Or.inl rfl)
  have e5 : jn (bI v i) (va_up g k t) (k + 1) = jn (bI v i) g k * bI v i + t := by
    show jn (bI v i) (va_up g k t) k * bI v i + va_up g k t k = _
    rw [va_up_self, jn_cg (g2 := g) k fun x hx => va_up_ne _ _ (by omega)]
  obtain ⟨M2, w1, w2, w3⟩ := R_box hA r hi hc (l.fr fA nsc_ly) (f := k + 1) (by omega) (g := va_up g k t) (fun x hx => by
    by_cases e : x = k
    · rw [e, gI_self, va_up_self]; exact ⟨rfl, ht⟩
    · rw [gI_oth (by omega), va_up_ne _ _ e]; exact hg x (by omega))
  rw [e5] at w3
  refine ⟨M2, w1, fA.tr (w2.wk fun a k e => Or.inr e), fun j hj => ?_, ?_, w3⟩
  · rw [w2.2.2.2 54 j (by unfold bsc; omega), gI_oth (by omega)]
  · rw [w2.2.2.2 54 k (by unfold bsc; omega), gI_self]
theorem R_lowest {v : Nat → Nat} {i : Nat} (hi : i < 8) (hc : okI v i) {w : Nat → Int32} {wl wh : Nat → Nat} (hw : isW v i w wl wh) {o : Nat} (ho : o = 0 ∨ o = 1) {k0 N : Nat} (hk0 : k0 ≤ mI v i) (hN : N < cS v i) (hP : wP v i o wl wh N) (hmin : ∀ n, n < N → n / bI v i ^ (mI v i - k0) = N / bI v i ^ (mI v i - k0) → ¬ wP v i o wl wh n) {M : q_M} (h : SH M) (r : RI M v) (wi : WI M w) (l : LYr M (cK v i) (cD v i) (cL v i)) (hg : ∀ j, j < k0 → gI M 54 j = nI (dgI v i N j)) : ∃ M1, q_CL 168 [.inr (.inr (some 49)), .inl (nI i), .inl (nI k0), .inl (nI o)] M = some (some (.inr (.inl (lN N))), M1) ∧ fr nsc M M1 := by
  have mb := mI_b hc
  have bb := bI_b hc
  have gd := gdI hc
  rw [C_X12_lowest]
  have jl : ∀ k, jn (bI v i) (dgI v i N) k < bI v i ^ k := fun k => jn_lt k fun x _ => dgI_lt hc N x
  have outer : ∀ n k, k + n = mI v i → k0 ≤ k → ∀ M, SH M → RI M v → WI M w → LYr M (cK v i) (cD v i) (cL v i) → (∀ j, j < k → gI M 54 j = nI (dgI v i N j)) → ∃ M1, q_RL T_X12_lowest (3, [some (.inr (.inr (some 49))), some (.inl (nI i)), some (.inl (nI k0)), some (.inl (nI o)), some (.inl (nI k))], [], M) = some (some (.inr (.inl (lN N))), M1) ∧ fr nsc M M1 := by
    intro n
    induction n with
    | zero =>
      intro k hk _ M h r wi l hj
      refine ⟨M, ?_, fr.rf _ M⟩
      rw [E_X12_lowest_3]
      simp only [m_fI h, Option.bind_some, l.m hc]
      rw [if_pos (nI_le (by omega) (by omega))]
      have e := R_joined h (B := bI v i) (m := mI v i) (g := dgI v i N) (by omega) (by omega) l.1 (l.m hc) (fun x hx => ⟨hj x (by omega), by have := dgI_lt hc N x; omega⟩)
      simp only [m_sel h, Option.bind_some, e, z_rL]
      rw [dgI_jn hc hN (Nat.le_refl _), Nat.sub_self, Nat.pow_zero, Nat.div_one]
    | succ n ih =>
      intro k hk hk0 M h r wi l hj
      have es := dgI_s hc hN (show k < mI v i by omega)
      rw [← dgI_jn hc hN (show k ≤ mI v i by omega)] at es
      have inner : ∀ n t, t + n = dgI v i N k → ∀ M, SH M → RI M v → WI M w → LYr M (cK v i) (cD v i) (cL v i) → (∀ j, j < k → gI M 54 j = nI (dgI v i N j)) → gI M 54 k = nI t → BXf M (bx (cmI v i) (dI v i (k + 1)) (jn (bI v i) (dgI v i N) k * bI v i + t)).1 (bx (cmI v i) (dI v i (k + 1)) (jn (bI v i) (dgI v i N) k * bI v i + t)).2.1 → ∃ M1, q_RL T_X12_lowest (29, [some (.inr (.inr (some 49))), some (.inl (nI i)), some (.inl (nI k0)), some (.inl (nI o)), some (.inl (nI k))], [], M) = some (some (.inr (.inl (lN N))), M1) ∧ fr nsc M M1 := by
        intro n
        induction n with
        | zero =>
          intro t ht M h r wi l hj hkt b
          have et : t = dgI v i N k := by omega
          subst et
          have pl : jn (bI v i) (dgI v i N) k * bI v i + dgI v i N k < bI v i ^ (k + 1) := jl (k + 1)
          have sp := side_pos gd (dI_le hc (show k + 1 ≤ mI v i by omega)) (p := jn (bI v i) (dgI v i N) k * bI v i + dgI v i N k) (by rw [pw_dI]; exact pl)
          rw [E_X12_lowest_29]
          rcases R_ask h wi hc hw b sp ho with ⟨_, e⟩ | ⟨q, _⟩
          · simp only [m_sel h, Option.bind_some, e, z_rI]
            rw [if_neg (show ¬ nI 1 = 0 by decide +kernel), nI_1]
            exact ih (k + 1) (by omega) (by omega) M h r wi l (fun j hj2 => by
              by_cases e : j = k
              · rw [e]; exact hkt
              · exact hj j (by omega))
          · exact absurd ((ask_iff hc hw (by omega) pl).mpr ⟨N, hN, es, hP⟩) q
        | succ n ihn =>
          intro t ht M h r wi l hj hkt b
          have gl := dgI_lt hc N k
          have pl : jn (bI v i) (dgI v i N) k * bI v i + t < bI v i ^ (k + 1) := kid_lt (jl k) (by omega)
          have sp := side_pos gd (dI_le hc (show k + 1 ≤ mI v i by omega)) (p := jn (bI v i) (dgI v i N) k * bI v i + t) (by rw [pw_dI]; exact pl)
          rw [E_X12_lowest_29]
          rcases R_ask h wi hc hw b sp ho with ⟨q, _⟩ | ⟨_, e⟩
          · exfalso
            obtain ⟨m, m1, m2, m3⟩ := (ask_iff hc hw (by omega) pl).mp q
            refine hmin m ?_ ?_ m3
            · rcases Nat.lt_or_ge m N with q | q
              · exact q
              · have := Nat.div_le_div_right (c := bI v i ^ (mI v i - (k + 1))) q
                omega
            · rw [show mI v i - k0 = (mI v i - (k + 1)) + ((k - k0) + 1) by omega, dv_pw m _ (mI v i - (k + 1)) ((k - k0) + 1), dv_pw N _ (mI v i - (k + 1)) ((k - k0) + 1), m2, es, dv_up (by omega), dv_up gl]
          · simp only [m_sel h, Option.bind_some, e, z_rI]
            rw [if_pos nI_0]
            obtain ⟨M2, w1, w2, w3, w4, w5⟩ := R_setbox h r hi hc l (show k < mI v i by omega) (show t + 1 < bI v i by omega) (g := dgI v i N) (fun j hj2 => ⟨hj j hj2, dgI_lt hc N j⟩)
            have hA : SH (stI M 54 k (nI (t + 1))) := h
            simp only [m_dg h, Option.bind_some, m_a60 h (Or.inr rfl) (show k < 60 by omega), hkt, nI_add, m_b60 h (Or.inr rfl) (show k < 60 by omega), m_sel hA, w1, z_rV]
            obtain ⟨M3, u1, u2⟩ := ihn (t + 1) (by omega) M2 (w2.sh h) (w2.ri r) (w2.wi wi) (l.fr w2 nsc_ly) (fun j hj2 => by rw [w3 j (by omega)]; exact hj j hj2) w4 w5
            exact ⟨M3, u1, w2.tr u2⟩
      have bpos : 0 < bI v i := by omega
      obtain ⟨M2, w1, w2, w3, w4, w5⟩ := R_setbox h r hi hc l (show k < mI v i by omega) bpos (g := dgI v i N) (fun j hj2 => ⟨hj j hj2, dgI_lt hc N j⟩)
      have hA : SH (stI M 54 k (nI 0)) := h
      obtain ⟨M3, u1, u2⟩ := inner (dgI v i N k) 0 (by omega) M2 (w2.sh h) (w2.ri r) (w2.wi wi) (l.fr w2 nsc_ly) (fun j hj2 => by rw [w3 j (by omega)]; exact hj j hj2) w4 w5
      refine ⟨M3, ?_, w2.tr u2⟩
      rw [E_X12_lowest_3]
      simp only [m_fI h, Option.bind_some, l.m hc]
      rw [if_neg (nI_ge (by omega) (by omega))]
      simp only [m_dg h, Option.bind_some, m_b60 h (Or.inr rfl) (show k < 60 by omega), m_sel hA, nI_add, w1, z_rV, u1]
  exact outer (mI v i - k0) k0 (by omega) (Nat.le_refl _) M h r wi l hg
/-- an answer of next -/
def rL : Option Nat → Int64
  | none => -1
  | some n => lN n
theorem R_next {v : Nat → Nat} (wc : WC v) {i : Nat} (hi0 : i < v 0) {w : Nat → Int32} {wl wh : Nat → Nat} (hw : isW v i w wl wh) {o : Nat} (ho : o = 0 ∨ o = 1) {f : Nat} (hf : f < 2 ^ 62) {M : q_M} (h : SH M) (r : RI M v) (wi : WI M w) : ∃ q M1, q_CL 167 [.inr (.inr (some 49)), .inl (nI i), .inr (.inl (lN f)), .inl (nI o)] M = some (some (.inr (.inl (rL q))), M1) ∧ FM M M1 ∧ Nx (wP v i o wl wh) (cS v i) f q := by
  have w0 := wc.1
  have hc := wc.2 i hi0
  have hi : i < 8 := by omega
  have mb := mI_b hc
  have bb := bI_b hc
  have gd := gdI hc
  have c61 := cS_62 hc
  rw [C_X12_next]
  have esz : q_CL 148 [.inr (.inr (some 49)), .inl (nI i)] M = some (some (.inr (.inl (lN (cS v i)))), M) := by
    rcases R_size h r wc (nI i) with ⟨q, _⟩ | ⟨i2, hi2, q, e3⟩
    · exact absurd ⟨i, hi0, rfl⟩ q
    · have : i = i2 := (nI_eq (by omega) (by omega)).mp q
      subst this
      exact e3
  simp only [m_sel h, Option.bind_some, esz, z_rL, lg_cmp_lt, lg_cmp_ge, pk_lLT (show f < 2 ^ 63 by omega) (show cS v i < 2 ^ 63 by omega)]
  by_cases hS2 : ¬ f < cS v i
  · rw [if_neg hS2]
    exact ⟨none, M, rfl, FM.rf M, fun n h1 h2 => by omega⟩
  have hS : f < cS v i := by omega
  rw [if_pos hS]
  simp only [if_pos (show lN 0 ≤ lN f from (pk_lLE (by omega) (by omega)).mpr (Nat.zero_le f))]
  obtain ⟨M1, p1, p2, p3⟩ := R_lays h r hi hc
  have h1 := p2.sh h
  obtain ⟨M2, q1, q2, q3⟩ := R_splits h1 bb mb p3.1 (p3.m hc) (show f < 2 ^ 63 by omega)
  have h2 := q2.sh h1
  have r2 := q2.ri (p2.ri r)
  have l2 : LYr M2 (cK v i) (cD v i) (cL v i) := p3.fr q2 fun a k e => by omega
  obtain ⟨M3, u1, u2, u3⟩ := R_box h2 r2 hi hc l2 (Nat.le_refl (mI v i)) (g := dgI v i f) (fun k hk => ⟨q3 k hk, dgI_lt hc f k⟩)
  rw [dgI_jn hc hS (Nat.le_refl _), Nat.sub_self, Nat.pow_zero, Nat.div_one] at u3
  have h3 := u2.sh h2
  have r3 := u2.ri r2
  have l3 := l2.fr u2 bsc_ly
  have wi3 : WI M3 w := u2.wi (q2.wi (p2.wi wi))
  have d3 : ∀ k, k < mI v i → gI M3 54 k = nI (dgI v i f k) := fun k hk => by
    rw [u2.2.2.2 54 k (by unfold bsc; omega)]; exact q3 k hk
  have F3 : FM M M3 := p2.tr ((q2.fm s54).tr (u2.fm bsc_scr))
  have fp : f < bI v i ^ mI v i := by rw [← (cS_pw hc).2]; exact hS
  have sp3 := side_pos gd (dI_le hc (Nat.le_refl (mI v i))) (p := f) (by rw [pw_dI]; exact fp)
  simp only [m_sel h, Option.bind_some, p1, z_rV, m_sel h1, q1, m_fI h2, l2.m hc, m_sel h2, u1, m_sel h3]
  have ai := ask_iff hc hw (o := o) (Nat.le_refl (mI v i)) fp
  rw [Nat.sub_self, Nat.pow_zero] at ai
  rcases R_ask h3 wi3 hc hw u3 sp3 ho with ⟨ak, e⟩ | ⟨ak, e⟩
  · obtain ⟨n, n1, n2, n3⟩ := ai.mp ak
    rw [Nat.div_one] at n2
    subst n2
    rw [e]
    simp only [z_rI, Option.bind_some]
    rw [if_neg (show ¬ nI 1 = 0 by decide +kernel)]
    have ej := R_joined h3 (B := bI v i) (m := mI v i) (g := dgI v i n) (by omega) (by omega) l3.1 (l3.m hc) (fun x hx => ⟨d3 x hx, by have := dgI_lt hc n x; omega⟩)
    rw [dgI_jn hc n1 (Nat.le_refl _), Nat.sub_self, Nat.pow_zero, Nat.div_one] at ej
    refine ⟨some n, M3, ?_, F3, Nat.le_refl n, n1, n3, fun m h1 h2 => by omega⟩
    simp only [m_sel h3, Option.bind_some, ej, z_rL]; rfl
  · rw [e]
    simp only [z_rI, Option.bind_some]
    rw [if_pos nI_0]
    simp only [m_fI h3, Option.bind_some, l3.m hc]
    rw [pk_sub mb.1, ← pk_m1 (mI v i - 1), show mI v i - 1 + 1 = mI v i by omega]
    have key : ∀ k, k ≤ mI v i → ∀ M d3, SH M → RI M v → WI M w → LYr M (cK v i) (cD v i) (cL v i) → (∀ j, j < k → gI M 54 j = nI (dgI v i f j)) → (∀ n, f ≤ n → n < cS v i → n / bI v i ^ (mI v i - k) ≤ f / bI v i ^ (mI v i - k) → ¬ wP v i o wl wh n) → ∃ q M1, q_RL T_X12_next (65, [some (.inr (.inr (some 49))), some (.inl (nI i)), some (.inr (.inl (lN f))), d3, some (.inl (nI o)), some (.inl (nI k + (-1)))], [], M) = some (some (.inr (.inl (rL q))), M1) ∧ fr nsc M M1 ∧ Nx (wP v i o wl wh) (cS v i) f q := by
      intro k
      induction k with
      | zero =>
        intro _ M d3 h r wi l hj ex
        refine ⟨none, M, ?_, fr.rf _ M, fun n n1 n2 => ex n n1 n2 ?_⟩
        · rw [E_X12_next_65, if_pos (by decide +kernel)]; rfl
        · rw [Nat.sub_zero, Nat.div_eq_of_lt (by rw [← (cS_pw hc).2]; exact n2)]; exact Nat.zero_le _
      | succ k ih =>
        intro hk M d3 h r wi l hj ex
        rw [E_X12_next_65, pk_m1, if_neg (nI_pos (by omega))]
        have es := dgI_s hc hS (show k < mI v i by omega)
        have inner : ∀ m t, t + m + 1 = bI v i → dgI v i f k ≤ t → ∀ M, SH M → RI M v → WI M w → LYr M (cK v i) (cD v i) (cL v i) → (∀ j, j < k → gI M 54 j = nI (dgI v i f j)) → gI M 54 k = nI t → (∀ n, f ≤ n → n < cS v i → n / bI v i ^ (mI v i - (k + 1)) ≤ f / bI v i ^ (mI v i - k) * bI v i + t → ¬ wP v i o wl wh n) → ∃ q M1, q_RL T_X12_next (70, [some (.inr (.inr (some 49))), some (.inl (nI i)), some (.inr (.inl (lN f))), d3, some (.inl (nI o)), some (.inl (nI k))], [], M) = some (some (.inr (.inl (rL q))), M1) ∧ fr nsc M M1 ∧ Nx (wP v i o wl wh) (cS v i) f q := by
          intro m
          induction m with
          | zero =>
            intro t ht hft M h r wi l hj hkt ex2
            have hA : SH (stI M 54 k (nI 0)) := h
            have fA : fr nsc M (stI M 54 k (nI 0)) := (fr.rf _ M).st (Or.inl rfl)
            rw [E_X12_next_70]
            simp only [m_dg h, Option.bind_some, m_a60 h (Or.inr rfl) (show k < 60 by omega), hkt, m_fI h, l.1, nI_add]
            rw [show (if cK v i = 2 then 2 ^ cD v i else cB (cK v i)) = bI v i from rfl, if_pos (nI_le (by omega) (by omega))]
            simp only [m_b60 h (Or.inr rfl) (show k < 60 by omega), Option.bind_some]
            obtain ⟨q, M1, p1, p2, p3⟩ := ih (by omega) (stI M 54 k (nI 0)) d3 hA r wi (l.fr fA nsc_ly) (fun j hj2 => by rw [gI_oth (by omega)]; exact hj j hj2) (fun n n1 n2 n3 => ex2 n n1 n2 (by
              rw [dgI_s hc n2 (show k < mI v i by omega)]
              have a1 := Nat.mul_le_mul_right (bI v i) n3
              have a2 := dgI_lt hc n k
              omega))
            exact ⟨q, M1, p1, fA.tr p2, p3⟩
          | succ m ihm =>
            intro t ht hft M h r wi l hj hkt ex2
            rw [E_X12_next_70]
            simp only [m_dg h, Option.bind_some, m_a60 h (Or.inr rfl) (show k < 60 by omega), hkt, m_fI h, l.1, nI_add]
            rw [show (if cK v i = 2 then 2 ^ cD v i else cB (cK v i)) = bI v i from rfl, if_neg (nI_ge (by omega) (by omega))]
            obtain ⟨M2, w1, w2, w3, w4, w5⟩ := R_setbox h r hi hc l (show k < mI v i by omega) (show t + 1 < bI v i by omega) (g := dgI v i f) (fun j hj2 => ⟨hj j hj2, dgI_lt hc f j⟩)
            have hA : SH (stI M 54 k (nI (t + 1))) := h
            have h2 := w2.sh h
            have wi2 := w2.wi wi
            rw [dgI_jn hc hS (show k ≤ mI v i by omega)] at w5
            have pl : f / bI v i ^ (mI v i - k) * bI v i + (t + 1) < bI v i ^ (k + 1) := by
              rw [← dgI_jn hc hS (show k ≤ mI v i by omega)]
              exact kid_lt (jn_lt k fun x _ => dgI_lt hc f x) (by omega)
            have sp := side_pos gd (dI_le hc (show k + 1 ≤ mI v i by omega)) (p := f / bI v i ^ (mI v i - k) * bI v i + (t + 1)) (by rw [pw_dI]; exact pl)
            have ai := ask_iff hc hw (o := o) (show k + 1 ≤ mI v i by omega) pl
            simp only [m_b60 h (Or.inr rfl) (show k < 60 by omega), Option.bind_some, m_sel hA, w1, z_rV, m_sel h2]
            rcases R_ask h2 wi2 hc hw w5 sp ho with ⟨ak, e⟩ | ⟨ak, e⟩
            · rw [e]
              simp only [z_rI, Option.bind_some]
              rw [if_neg (show ¬ nI 1 = 0 by decide +kernel)]
              obtain ⟨N, ⟨n1, n2, n3⟩, nm⟩ := pk_least (fun n => n < cS v i ∧ n / bI v i ^ (mI v i - (k + 1)) = f / bI v i ^ (mI v i - k) * bI v i + (t + 1) ∧ wP v i o wl wh n) (ai.mp ak)
              have dN : ∀ j, j < k + 1 → dgI v i N j = if j = k then t + 1 else dgI v i f j := by
                intro j hj2
                unfold dgI
                by_cases ej : j = k
                · rw [if_pos ej, ej, show mI v i - 1 - k = mI v i - (k + 1) by omega, n2, Nat.mul_comm, Nat.mul_add_mod, Nat.mod_eq_of_lt (by omega)]
                · rw [if_neg ej, show mI v i - 1 - j = (mI v i - (k + 1)) + ((k - 1 - j) + 1) by omega, dv_pw N _ (mI v i - (k + 1)) ((k - 1 - j) + 1), n2, dv_up (by omega), dv_pw f _ (mI v i - (k + 1)) ((k - 1 - j) + 1), es, dv_up (dgI_lt hc f k)]
              obtain ⟨M3, x1, x2⟩ := R_lowest hi hc hw ho (k0 := k + 1) (by omega) n1 n3 (fun n hn he hp => nm n hn ⟨by omega, by rw [he, n2], hp⟩) h2 (w2.ri r) wi2 (l.fr w2 nsc_ly) (fun j hj2 => by
                rw [dN j hj2]
                by_cases ej : j = k
                · rw [if_pos ej, ej]; exact w4
                · rw [if_neg ej, w3 j ej]; exact hj j (by omega))
              refine ⟨some N, M3, ?_, w2.tr x2, ?_, n1, n3, fun n h4 h5 hp => ?_⟩
              · simp only [m_sel h2, Option.bind_some, x1, z_rL]; rfl
              · rcases Nat.lt_or_ge N f with q | q
                · have := Nat.div_le_div_right (c := bI v i ^ (mI v i - (k + 1))) (Nat.le_of_lt q)
                  omega
                · exact q
              · have a1 := Nat.div_le_div_right (c := bI v i ^ (mI v i - (k + 1))) (Nat.le_of_lt h5)
                rcases Nat.lt_or_ge (n / bI v i ^ (mI v i - (k + 1))) (f / bI v i ^ (mI v i - k) * bI v i + (t + 1)) with q | q
                · exact ex2 n h4 (by omega) (by omega) hp
                · exact nm n h5 ⟨by omega, by omega, hp⟩
            · rw [e]
              simp only [z_rI, Option.bind_some]
              rw [if_pos nI_0]
              obtain ⟨q, M3, x1, x2, x3⟩ := ihm (t + 1) (by omega) (by omega) M2 h2 (w2.ri r) wi2 (l.fr w2 nsc_ly) (fun j hj2 => by rw [w3 j (by omega)]; exact hj j hj2) w4 (fun n n1 n2 n3 hp => by
                rcases Nat.lt_or_ge (n / bI v i ^ (mI v i - (k + 1))) (f / bI v i ^ (mI v i - k) * bI v i + (t + 1)) with q | q
                · exact ex2 n n1 n2 (by omega) hp
                · exact ak (ai.mpr ⟨n, n2, by omega, hp⟩))
              exact ⟨q, M3, x1, w2.tr x2, x3⟩
        have gl := dgI_lt hc f k
        exact inner (bI v i - 1 - dgI v i f k) (dgI v i f k) (by omega) (Nat.le_refl _) M h r wi l (fun j hj2 => hj j (by omega)) (hj k (by omega)) (fun n n1 n2 n3 => ex n n1 n2 (by rw [es]; exact n3))
    obtain ⟨q, M4, x1, x2, x3⟩ := key (mI v i) (Nat.le_refl _) M3 none h3 r3 wi3 l3 d3 (fun n n1 n2 n3 hp => by
      rw [Nat.sub_self, Nat.pow_zero, Nat.div_one, Nat.div_one] at n3
      have : n = f := by omega
      subst this
      exact ak (ai.mpr ⟨n, n2, Nat.div_one n, hp⟩))
    exact ⟨q, M4, x1, F3.tr (x2.fm nsc_scr), x3⟩
