/-! ===== THE REFERENCE: spans are written down ===== -/
theorem RI_up {M : q_M} {v : Nat → Nat} (r : RI M v) {k x : Nat} (hx : x < 2 ^ 62) : RI (stL M 50 k (lN x)) (va_up v k x) := by
  intro i h1 h2
  by_cases e : i = k
  · rw [e, gL_self, va_up_self]; exact ⟨rfl, hx⟩
  · rw [gL_oth (by omega), va_up_ne _ _ e]; exact r i h1 h2
theorem WI_up {M : q_M} {w : Nat → Int32} (r : WI M w) {k : Nat} {x : Int64} (hk : 55 ≤ k) : WI (stL M 50 k x) w := fun j hj => by
  rw [gL_oth (by omega)]; exact r j hj
def flt (l : List (Nat × Nat)) (j : Nat) : Nat := if j % 2 = 0 then (l.getD (j / 2) (0, 0)).1 else (l.getD (j / 2) (0, 0)).2
def volW (wl wh : Nat → Nat) : Nat → Nat
  | 0 => 1
  | a + 1 => volW wl wh a * (wh a - wl a + 1)
def spW (v : Nat → Nat) (l : List (Nat × Nat)) (vo j x : Nat) : Nat := if x = 55 then l.length else if x = 56 then vo else if 57 ≤ x ∧ x < 57 + j then flt l (x - 57) else v x
theorem spL_lt {P : Nat → Prop} {S : Nat} : ∀ (l : List (Nat × Nat)) (f t : Nat), spL P S f l → t < l.length → (l.getD t (0, 0)).1 < S ∧ (l.getD t (0, 0)).2 < S
  | [], _, t, _, ht => by rw [List.length_nil] at ht; omega
  | (a, b) :: l, f, 0, h, _ => ⟨by show a < S; have := h.2.1; have := h.2.2.1; omega, h.2.2.1⟩
  | (a, b) :: l, f, t + 1, h, ht => by
    rw [List.length_cons] at ht
    exact spL_lt l (b + 1) t h.2.2.2.2.2.2 (by omega)
theorem flt_lt {P : Nat → Prop} {S f : Nat} {l : List (Nat × Nat)} (h : spL P S f l) {j : Nat} (hj : j < 2 * l.length) : flt l j < S := by
  have := spL_lt l f (j / 2) h (by omega)
  unfold flt
  by_cases e : j % 2 = 0
  · rw [if_pos e]; exact this.1
  · rw [if_neg e]; exact this.2
theorem SPr.fl {M : q_M} {l : List (Nat × Nat)} (s : SPr M l) {j : Nat} (hj : j < 2 * l.length) : gL M 58 j = lN (flt l j) := by
  have := s (j / 2) (by omega)
  unfold flt
  by_cases e : j % 2 = 0
  · rw [if_pos e, ← this.1, show 2 * (j / 2) = j by omega]
  · rw [if_neg e, ← this.2, show 2 * (j / 2) + 1 = j by omega]
theorem vol_le {v : Nat → Nat} {i : Nat} (hc : okI v i) {w : Nat → Int32} {wl wh : Nat → Nat} (hw : isW v i w wl wh) : volW wl wh 3 ≤ cS v i := by
  have a0 := hw 0 (by omega)
  have a1 := hw 1 (by omega)
  have a2 := hw 2 (by omega)
  have e : cS v i = cB (cK v i) ^ cL v i 0 * cB (cK v i) ^ cL v i 1 * cB (cK v i) ^ cL v i 2 := by
    rw [hc.2, ← Nat.pow_add, ← Nat.pow_add]; rfl
  rw [e]
  show 1 * (wh 0 - wl 0 + 1) * (wh 1 - wl 1 + 1) * (wh 2 - wl 2 + 1) ≤ _
  rw [Nat.one_mul]
  exact Nat.mul_le_mul (Nat.mul_le_mul (by omega) (by omega)) (by omega)
def s58 (a : Nat) : Prop := a = 50 ∨ a = 58
theorem R_sp188 {v : Nat → Nat} {l : List (Nat × Nat)} {P : Nat → Prop} {S f i vo : Nat} (hS : S < 2 ^ 62) (hs : spL P S f l) (hl : l.length ≤ 200) {w : Nat → Int32} {l3 l5 : Int64} : ∀ n j, j + n = 2 * l.length → ∀ M d4 d6, SH M → SPr M l → RI M (spW v l vo j) → WI M w → ∃ M1, q_RL T_X12_spans (188, [some (.inr (.inr (some 49))), some (.inl (nI i)), some (.inl (nI l.length)), some (.inr (.inl l3)), d4, some (.inr (.inl l5)), d6, some (.inl (nI j))], [], M) = some (some (.inl (nI l.length)), M1) ∧ FL s58 M M1 ∧ RI M1 (spW v l vo (2 * l.length)) ∧ WI M1 w := by
  intro n
  induction n with
  | zero =>
    intro j hj M d4 d6 h sp r wi
    refine ⟨M, ?_, FL.rf _ M, ?_, wi⟩
    · rw [E_X12_spans_188, pk_mul, if_pos (nI_le (by omega) (by omega))]
    · rw [← show j = 2 * l.length by omega]; exact r
  | succ n ih =>
    intro j hj M d4 d6 h sp r wi
    rw [E_X12_spans_188, pk_mul, if_neg (nI_ge (by omega) (by omega))]
    have fl := flt_lt hs (show j < 2 * l.length by omega)
    simp only [m_s h, m_sp h, Option.bind_some, m_a58 h (show j < 402 by omega), sp.fl (show j < 2 * l.length by omega), nI_add, nI_1, m_bL h (show 57 + j < 60190 by omega)]
    obtain ⟨M1, p1, p2, p3, p4⟩ := ih (j + 1) (by omega) (stL M 50 (57 + j) (lN (flt l j))) d4 (q_kill d6) h (fun t ht => by rw [gL_oth (by omega), gL_oth (by omega)]; exact sp t ht) (by
      have e : spW v l vo (j + 1) = va_up (spW v l vo j) (57 + j) (flt l j) := by
        funext x
        by_cases ex : x = 57 + j
        · subst ex
          rw [va_up_self]
          unfold spW
          rw [if_neg (by omega), if_neg (by omega), if_pos (by omega), show 57 + j - 57 = j by omega]
        · rw [va_up_ne _ _ ex]
          unfold spW
          by_cases a : x = 55
          · rw [if_pos a, if_pos a]
          · rw [if_neg a, if_neg a]
            by_cases b : x = 56
            · rw [if_pos b, if_pos b]
            · rw [if_neg b, if_neg b]
              by_cases c : 57 ≤ x ∧ x < 57 + j
              · rw [if_pos c, if_pos (by omega)]
              · rw [if_neg c, if_neg (by omega)]
      rw [e]
      exact RI_up r (by omega)) (WI_up wi (by omega))
    exact ⟨M1, p1, ((FL.rf _ M).st (Or.inl rfl)).tr p2, p3, p4⟩
theorem R_sp127 {v : Nat → Nat} {l : List (Nat × Nat)} {P : Nat → Prop} {S f i : Nat} (hS : S < 2 ^ 62) (hs : spL P S f l) (hl : l.length ≤ 200) (hc : okI v i) {w : Nat → Int32} {wl wh : Nat → Nat} (hw : isW v i w wl wh) {l3 : Int64} : ∀ n a, a + n = 3 → ∀ M d4 d6, SH M → SPr M l → RI M v → WI M w → ∃ M1, q_RL T_X12_spans (127, [some (.inr (.inr (some 49))), some (.inl (nI i)), some (.inl (nI l.length)), some (.inr (.inl l3)), d4, some (.inr (.inl (lN (volW wl wh a)))), d6, some (.inl (nI a))], [], M) = some (some (.inl (nI l.length)), M1) ∧ FL s58 M M1 ∧ RI M1 (spW v l (volW wl wh 3) (2 * l.length)) ∧ WI M1 w := by
  intro n
  induction n with
  | zero =>
    intro a ha M d4 d6 h sp r wi
    rw [show a = 3 by omega]
    have vl := vol_le hc hw
    have c61 := cS_62 hc
    have h2 : SH (stL M 50 55 (lN l.length)) := h
    rw [E_X12_spans_127, if_pos (nI_le (by omega) (by omega)), nI_l (show l.length < 2 ^ 31 by omega)]
    simp only [m_s h, Option.bind_some, m_bL h (show 55 < 60190 by omega), m_s h2, m_bL h2 (show 56 < 60190 by omega)]
    obtain ⟨M1, p1, p2, p3, p4⟩ := R_sp188 (v := v) (i := i) (vo := volW wl wh 3) hS hs hl (w := w) (l3 := l3) (l5 := lN (volW wl wh 3)) (2 * l.length) 0 (by omega) (stL (stL M 50 55 (lN l.length)) 50 56 (lN (volW wl wh 3))) d4 (q_kill d6) h (fun t ht => by rw [gL_oth (by omega), gL_oth (by omega), gL_oth (by omega), gL_oth (by omega)]; exact sp t ht) (by
      have e : spW v l (volW wl wh 3) 0 = va_up (va_up v 55 l.length) 56 (volW wl wh 3) := by
        funext x
        unfold spW
        by_cases b : x = 56
        · rw [if_neg (by omega), if_pos b, b, va_up_self]
        · rw [va_up_ne _ _ b, if_neg b]
          by_cases a : x = 55
          · rw [if_pos a, a, va_up_self]
          · rw [if_neg a, va_up_ne _ _ a, if_neg (by omega)]
      rw [e]
      exact RI_up (RI_up r (by omega)) (by omega)) (WI_up (WI_up wi (by omega)) (by omega))
    exact ⟨M1, p1, (((FL.rf _ M).st (Or.inl rfl)).st (Or.inl rfl)).tr p2, p3, p4⟩
  | succ n ih =>
    intro a ha M d4 d6 h sp r wi
    have q := hw a (by omega)
    have rl := room_le hc (show a < 3 by omega)
    rw [E_X12_spans_127, if_neg (nI_ge (by omega) (by omega))]
    simp only [m_s h, Option.bind_some, nI_add, m_aL h (show 52 + a < 60190 by omega), m_aL h (show 49 + a < 60190 by omega), wi a (by omega), show gL M 50 (52 + a) = (w (3 + a)).toInt64 by rw [show 52 + a = 49 + (3 + a) by omega]; exact wi (3 + a) (by omega), q.1, q.2.1, nI_l (show wl a < 2 ^ 31 by omega), nI_l (show wh a < 2 ^ 31 by omega), lN_sub q.2.2.1, lN_add, lN_mul, nI_1]
    exact ih (a + 1) (by omega) M _ none h sp r wi
theorem R_spans {v : Nat → Nat} (wc : WC v) {w : Nat → Int32} {M : q_M} (h : SH M) (r : RI M v) (wi : WI M w) (x : Int32) : (¬ (∃ i, i < v 0 ∧ x = nI i ∧ ∃ lo hi, isW v i w lo hi) ∧ q_CL 169 [.inr (.inr (some 49)), .inl x] M = some (some (.inl (-1)), M)) ∨ ∃ i lo hi l, i < v 0 ∧ x = nI i ∧ isW v i w lo hi ∧ spL (wP v i 1 lo hi) (cS v i) 0 l ∧ ((l.length ≤ 200 ∧ ∃ M1, q_CL 169 [.inr (.inr (some 49)), .inl x] M = some (some (.inl (nI l.length)), M1) ∧ FL s58 M M1 ∧ RI M1 (spW v l (volW lo hi 3) (2 * l.length)) ∧ WI M1 w) ∨ (200 < l.length ∧ ∃ M1, q_CL 169 [.inr (.inr (some 49)), .inl x] M = some (some (.inl (-2)), M1) ∧ FL (fun a => a = 58) M M1)) := by
  have w0 := wc.1
  rw [C_X12_spans]
  simp only [m_sel h, Option.bind_some]
  rcases R_isC h r wc x with ⟨hx, e⟩ | ⟨i, hi, rfl, e⟩
  · left
    refine ⟨fun ⟨i, a, b, _⟩ => hx ⟨i, a, b⟩, ?_⟩
    rw [e]; rfl
  · have hc := wc.2 i hi
    have c61 := cS_62 hc
    rw [e]
    simp only [z_rI, Option.bind_some]
    rw [if_neg (show ¬ nI 1 = 0 by decide +kernel)]
    simp only [m_sel h, Option.bind_some]
    rcases R_isW h r wi (show i < 8 by omega) hc with ⟨hp, e2⟩ | ⟨lo, hh, hw, e2⟩
    · left
      refine ⟨fun ⟨j, a, b, c⟩ => hp ?_, ?_⟩
      · have : i = j := (nI_eq (by omega) (by omega)).mp b
        rw [this]; exact c
      · rw [e2]; rfl
    · right
      obtain ⟨q, M1, p1, p2, p3⟩ := R_next wc hi hw (Or.inr rfl) (f := 0) (by omega) h r wi
      obtain ⟨l, M2, u1, u2, u3⟩ := R_sp28 wc hi hw (cS v i) 0 q [] M1 none none none none (by omega) (by omega) (p2.sh h) (p2.ri r) (p2.wi wi) p3 (by rw [List.length_nil]; omega) (fun t ht => by rw [List.length_nil] at ht; omega)
      rw [List.length_nil, List.nil_append, Nat.zero_add] at u3
      refine ⟨i, lo, hh, l, hi, rfl, hw, u1, ?_⟩
      rw [e2]
      simp only [z_rI, Option.bind_some]
      rw [if_neg (show ¬ nI 1 = 0 by decide +kernel)]
      simp only [m_sel h, Option.bind_some, p1, z_rL]
      rcases u3 with ⟨g1, g2, c4, g3⟩ | ⟨g1, g2⟩
      · left
        have f2 := (FL.of p2).tr u2
        obtain ⟨M3, t1, t2, t3, t4⟩ := R_sp127 (show cS v i < 2 ^ 62 by omega) u1 g1 hc hw (l3 := -1) 3 0 (by omega) M2 c4 none (f2.sh h) g2 (f2.ri (by omega) r) (f2.wi (by omega) wi)
        refine ⟨g1, M3, ?_, (f2.wk fun a q => Or.inr q).tr t2, t3, t4⟩
        rw [g3]; exact t1
      · right
        exact ⟨g1, M2, g2, (FL.of p2).tr u2⟩
