/-! ===== THE REFERENCE: scratch ===== -/
/-- the ints that the reference's curve methods use as scratch -/
def scr (a k : Nat) : Prop := (a = 49 ∧ (k = 3 ∨ k = 4 ∨ k = 10 ∨ k = 11)) ∨ (53 ≤ a ∧ a ≤ 57)
/-- only scratch has changed -/
def FM (M M1 : q_M) : Prop := M1.1 = M.1 ∧ M1.2.1 = M.2.1 ∧ M1.2.2.2 = M.2.2.2 ∧ ∀ a k, ¬ scr a k → gI M1 a k = gI M a k
theorem FM.rf (M : q_M) : FM M M := ⟨rfl, rfl, rfl, fun _ _ _ => rfl⟩
theorem FM.tr {M M1 M2 : q_M} (a : FM M M1) (b : FM M1 M2) : FM M M2 := ⟨b.1.trans a.1, b.2.1.trans a.2.1, b.2.2.1.trans a.2.2.1, fun x k h => (b.2.2.2 x k h).trans (a.2.2.2 x k h)⟩
theorem FM.st {M M1 : q_M} (f : FM M M1) {a k : Nat} {x : Int32} (h : scr a k) : FM M (stI M1 a k x) := by
  refine ⟨f.1, f.2.1, f.2.2.1, fun b j hb => ?_⟩
  rw [gI_stI]
  by_cases e : b = a ∧ j = k
  · obtain ⟨rfl, rfl⟩ := e
    exact absurd h hb
  · rw [if_neg e]; exact f.2.2.2 b j hb
theorem FM.sh {M M1 : q_M} (f : FM M M1) (h : SH M) : SH M1 := by
  obtain ⟨a, b, c, _⟩ := f
  unfold SH gR gN at *
  rw [a, b, c]; exact h
theorem FM.gl {M M1 : q_M} (f : FM M M1) (a k : Nat) : gL M1 a k = gL M a k := by
  unfold gL; rw [f.2.2.1]
theorem FM.gr {M M1 : q_M} (f : FM M M1) (a k : Nat) : gR M1 a k = gR M a k := by
  unfold gR; rw [f.2.2.1]
theorem FM.ri {M M1 : q_M} (f : FM M M1) {v : Nat → Nat} (r : RI M v) : RI M1 v := by
  intro i h1 h2
  rw [f.gl]; exact r i h1 h2
theorem gI_self {M : q_M} {a k : Nat} {x : Int32} : gI (stI M a k x) a k = x := by rw [gI_stI, if_pos ⟨rfl, rfl⟩]
theorem gI_oth {M : q_M} {a k b j : Nat} {x : Int32} (h : ¬ (b = a ∧ j = k)) : gI (stI M a k x) b j = gI M b j := by rw [gI_stI, if_neg h]
theorem stI_id {M : q_M} {a k : Nat} {x : Int32} (h : gI M a k = x) : stI M a k x = M := by
  have e : q_w2 M.2.2.1 a k x = M.2.2.1 := by
    funext b j
    rw [q_w2_at]
    by_cases q : b = a ∧ j = k
    · rw [if_pos q, q.1, q.2]; exact h.symm
    · rw [if_neg q]
  unfold stI; rw [e]
theorem m_fI {M : q_M} (h : SH M) {k : Nat} : q_fI M 12 49 k = some (gI M 49 k) := y_fI h (by omega) rfl
theorem m_sI {M : q_M} (h : SH M) {k : Nat} {x : Int32} : q_sI M 12 49 k x = some (stI M 49 k x) := y_sI h (by omega) rfl
theorem m_fR {M : q_M} (h : SH M) {k c : Nat} (e : (49, k, c) ∈ q_crs) : q_fR M 12 49 k = some (some c) := (z_fR (by rw [h.1 49 (by omega)]; rfl)).trans (congrArg some (h.cr (49, k, c) e))
theorem m_lo {M : q_M} (h : SH M) : q_fR M 12 49 7 = some (some 55) := m_fR h (by decide)
theorem m_hi {M : q_M} (h : SH M) : q_fR M 12 49 8 = some (some 56) := m_fR h (by decide)
theorem m_su {M : q_M} (h : SH M) : q_fR M 12 49 9 = some (some 57) := m_fR h (by decide)
theorem m_ax {M : q_M} (h : SH M) : q_fR M 12 49 5 = some (some 53) := m_fR h (by decide)
theorem m_dg {M : q_M} (h : SH M) : q_fR M 12 49 6 = some (some 54) := m_fR h (by decide)
theorem m_a3 {M : q_M} (h : SH M) {c k : Nat} (hc : c = 55 ∨ c = 56 ∨ c = 57) (hk : k < 3) : q_aI M 14 c (nI k) = some (gI M c k) := by
  rcases hc with rfl | rfl | rfl <;> exact y_aI h (by omega) (by omega) rfl hk (by decide)
theorem m_b3 {M : q_M} (h : SH M) {c k : Nat} {x : Int32} (hc : c = 55 ∨ c = 56 ∨ c = 57) (hk : k < 3) : q_bI M 14 c (nI k) x = some (stI M c k x) := by
  rcases hc with rfl | rfl | rfl <;> exact y_bI h (by omega) (by omega) rfl hk (by decide)
theorem m_a60 {M : q_M} (h : SH M) {c k : Nat} (hc : c = 53 ∨ c = 54) (hk : k < 60) : q_aI M 14 c (nI k) = some (gI M c k) := by
  rcases hc with rfl | rfl <;> exact y_aI h (by omega) (by omega) rfl hk (by decide)
theorem m_b60 {M : q_M} (h : SH M) {c k : Nat} {x : Int32} (hc : c = 53 ∨ c = 54) (hk : k < 60) : q_bI M 14 c (nI k) x = some (stI M c k x) := by
  rcases hc with rfl | rfl <;> exact y_bI h (by omega) (by omega) rfl hk (by decide)
/-- the reference's box: low and high -/
def BXr (M : q_M) (b : Bx) : Prop := ∀ a, a < 3 → gI M 55 a = nI (b.1 a) ∧ gI M 56 a = nI (b.1 a + b.2.1 a - 1) ∧ 0 < b.2.1 a ∧ b.1 a + b.2.1 a ≤ 2 ^ 21
theorem R_nar {M : q_M} (h : SH M) {a t B lo sd : Nat} (ha : a < 3) (e1 : gI M 55 a = nI lo) (e2 : gI M 56 a = nI (lo + sd - 1)) (hB : B = 2 ∨ B = 3) (hs : 0 < sd / B) (hl : sd < 2 ^ 31) : q_CL 155 [.inr (.inr (some 49)), .inl (nI a), .inl (nI t), .inl (nI B)] M = some (none, stI (stI M 55 a (nI (lo + t * (sd / B)))) 56 a (nI (lo + t * (sd / B) + sd / B - 1))) := by
  have hs1 : 0 < sd := by
    rcases Nat.eq_zero_or_pos sd with q | q
    · rw [q, Nat.zero_div] at hs; exact absurd hs (Nat.lt_irrefl 0)
    · exact q
  have hs2 : SH (stI M 55 a (nI (lo + t * (sd / B)))) := h
  rw [C_X12_narrows]
  simp only [m_hi h, m_lo h, Option.bind_some, m_a3 h (Or.inl rfl) ha, m_a3 h (Or.inr (Or.inl rfl)) ha, e1, e2]
  rw [if_neg (nI_ne0 (by omega) (by omega)), pk_sub (show lo ≤ lo + sd - 1 by omega), nI_add, show lo + sd - 1 - lo + 1 = sd by omega, pk_div hl (by omega) (by omega), pk_mul, nI_add, m_b3 h (Or.inl rfl) ha]
  simp only [Option.bind_some, m_hi hs2, m_lo hs2, m_a3 hs2 (Or.inl rfl) ha, gI_self]
  rw [nI_add, pk_sub (by omega), m_b3 hs2 (Or.inr (Or.inl rfl)) ha]
  rfl
/-! turns -/
theorem tuO_s : ∀ x, x < 8 → (x % 2 = 1 → (nI x &&& nI 1) = nI 1 ∧ nI x >>> ((nI 1) &&& 31) = nI (x / 2) ∧ tuO x = 1 + tuO (x / 2)) ∧ (x % 2 = 0 → ¬ (nI x &&& nI 1) = nI 1 ∧ tuO x = 0) := by decide +kernel
theorem tuG : ∀ w, w < 8 → 0 < w → (w % 2 = 1 → (nI w &&& nI 1) = nI 1) ∧ (w % 2 = 0 → ¬ (nI w &&& nI 1) = nI 1) ∧ (w % 2 = 1 → (nI w - nI 1) ^^^ ((nI w - nI 1) >>> ((nI 1) &&& 31)) = nI (((w - 1) / 2 * 2) ^^^ ((w - 1) / 2))) ∧ (w % 2 = 0 → (nI w - nI 2) ^^^ ((nI w - nI 2) >>> ((nI 1) &&& 31)) = nI (((w - 1) / 2 * 2) ^^^ ((w - 1) / 2))) ∧ (w < 4 → ((w - 1) / 2 * 2) ^^^ ((w - 1) / 2) < 4) ∧ ((w - 1) / 2 * 2) ^^^ ((w - 1) / 2) < 8 := by decide +kernel
theorem tlG : ∀ g, g < 8 → (g < 4 → ∀ t, t < 2 → tlN 2 g (t + 1) = (g * 2 ^ (t + 1) ||| g / 2 ^ (2 - t - 1)) &&& (2 ^ 2 - 1)) ∧ ∀ t, t < 3 → tlN 3 g (t + 1) = (g * 2 ^ (t + 1) ||| g / 2 ^ (3 - t - 1)) &&& (2 ^ 3 - 1) := by decide +kernel
theorem tlG_d {d g t : Nat} (hd : d = 2 ∨ d = 3) (hg : g < 2 ^ d) (ht : t < d) : tlN d g (t + 1) = (g * 2 ^ (t + 1) ||| g / 2 ^ (d - t - 1)) &&& (2 ^ d - 1) := by
  rcases hd with rfl | rfl
  · exact (tlG g (by omega)).1 hg t ht
  · exact (tlG g hg).2 t ht
theorem xor8 : ∀ a, a < 8 → ∀ b, b < 8 → nI a ^^^ nI b = nI (a ^^^ b) ∧ a ^^^ b < 8 := by decide +kernel
theorem R_t64 {M : q_M} (h : SH M) {w d u : Nat} {x3 : Int32} (hd : d = 2 ∨ d = 3) (hu : gI M 49 11 = nI u) (h3 : u < 8) : ∀ n x j, x < 2 ^ n → x < 8 → j + n < 64 → q_RL T_X12_turns (64, [some (.inr (.inr (some 49))), some (.inl (nI w)), some (.inl (nI d)), some (.inl x3), some (.inl (nI j)), some (.inl (nI x))], [], M) = some (none, stI M 49 11 (nI ((u + 1 + (j + tuO x)) % d))) := by
  have ex : ∀ j, j < 64 → ∀ x, x < 8 → x % 2 = 0 → q_RL T_X12_turns (64, [some (.inr (.inr (some 49))), some (.inl (nI w)), some (.inl (nI d)), some (.inl x3), some (.inl (nI j)), some (.inl (nI x))], [], M) = some (none, stI M 49 11 (nI ((u + 1 + (j + tuO x)) % d))) := by
    intro j hj x hx he
    rw [E_X12_turns_64, if_neg ((tuO_s x hx).2 he).1, ((tuO_s x hx).2 he).2]
    simp only [m_fI h, Option.bind_some, hu, nI_add]
    rw [if_neg (nI_ne0 (by omega) (by omega)), pk_rem (by omega) (by omega) (by omega), m_sI h]
    rfl
  intro n
  induction n with
  | zero => intro x j hx hx8 hj; exact ex j (by omega) x hx8 (by omega)
  | succ n ih =>
    intro x j hx hx8 hj
    rcases (show x % 2 = 0 ∨ x % 2 = 1 by omega) with he | he
    · exact ex j (by omega) x hx8 he
    · have q := (tuO_s x hx8).1 he
      rw [E_X12_turns_64, if_pos q.1, q.2.1, nI_1]
      rw [ih (x / 2) (j + 1) (by rw [Nat.pow_succ] at hx; omega) (by omega) (by omega), q.2.2, show j + 1 + tuO (x / 2) = j + (1 + tuO (x / 2)) by omega]
theorem R_turns {M : q_M} (h : SH M) {w d e t : Nat} (hd : d = 2 ∨ d = 3) (hw : w < 2 ^ d) (ht : t < d) (he : e < 2 ^ d) (e1 : gI M 49 10 = nI e) (e2 : gI M 49 11 = nI t) : q_CL 153 [.inr (.inr (some 49)), .inl (nI w), .inl (nI d)] M = some (none, stI (stI M 49 10 (nI (tuE d e t w))) 49 11 (nI (tuU d t w))) := by
  have hd8 : 2 ^ d ≤ 8 := by rcases hd with rfl | rfl <;> decide
  rw [C_X12_turns]
  by_cases w0 : w = 0
  · subst w0
    rw [if_pos nI_0, show tuE d e t 0 = e from if_pos rfl, show tuU d t 0 = (t + 1) % d from if_pos rfl, stI_id e1]
    simp only [m_fI h, Option.bind_some, e2, nI_add]
    rw [if_neg (nI_ne0 (by omega) (by omega)), pk_rem (by omega) (by omega) (by omega), m_sI h]
    rfl
  · have gq := tuG w (by omega) (by omega)
    have hg : ((w - 1) / 2 * 2) ^^^ ((w - 1) / 2) < 2 ^ d := by
      rcases hd with rfl | rfl
      · exact gq.2.2.2.2.1 hw
      · exact gq.2.2.2.2.2
    rw [if_neg (show ¬ nI w = 0 from nI_ne0 (by omega) (by omega))]
    have hE : tuE d e t w = e ^^^ tlN d (((w - 1) / 2 * 2) ^^^ ((w - 1) / 2)) (t + 1) := by
      unfold tuE; rw [if_neg w0, tlG_d hd hg ht]
    have hU : tuU d t w = (t + 1 + tuO (if w % 2 = 1 then w else w - 1)) % d := by
      unfold tuU; rw [if_neg w0]
    have hx : nI e ^^^ nI (tlN d (((w - 1) / 2 * 2) ^^^ ((w - 1) / 2)) (t + 1)) = nI (tuE d e t w) := by
      rw [hE]; exact (xor8 e (by omega) _ (by have := tlN_lt hd (t + 1) _ hg; omega)).1
    have hs2 : SH (stI M 49 10 (nI (tuE d e t w))) := h
    have e3 : gI (stI M 49 10 (nI (tuE d e t w))) 49 11 = nI t := (gI_oth (by omega)).trans e2
    rcases (show w % 2 = 0 ∨ w % 2 = 1 by omega) with ev | od
    · rw [if_neg (gq.2.1 ev)]
      simp only [m_fI h, Option.bind_some, e1, e2, nI_add]
      rw [gq.2.2.2.1 ev, R_tl hd (by omega) hg]
      simp only [z_rI, Option.bind_some, hx, m_sI h]
      rw [if_neg (gq.2.1 ev), pk_sub (show 1 ≤ w by omega), R_t64 hs2 hd e3 (by omega) 3 (w - 1) 0 (by omega) (by omega) (by omega), hU, if_neg (by omega), Nat.zero_add]
    · rw [if_pos (gq.1 od)]
      simp only [m_fI h, Option.bind_some, e1, e2, nI_add]
      rw [gq.2.2.1 od, R_tl hd (by omega) hg]
      simp only [z_rI, Option.bind_some, hx, m_sI h]
      rw [if_pos (gq.1 od), R_t64 hs2 hd e3 (by omega) 3 w 0 (by omega) (by omega) (by omega), hU, if_pos od, Nat.zero_add]
/-! the order of axes -/
def AXr (M : q_M) (l : List Nat) : Prop := gI M 49 4 = nI l.length ∧ ∀ k, k < l.length → gI M 53 k = nI (l.getD k 0)
theorem getD_app {l : List Nat} {x k : Nat} : (l ++ [x]).getD k 0 = if k < l.length then l.getD k 0 else if k = l.length then x else 0 := by
  by_cases h : k < l.length
  · rw [if_pos h, List.getD_eq_getElem?_getD, List.getElem?_append_left h, ← List.getD_eq_getElem?_getD]
  · rw [if_neg h, List.getD_eq_getElem?_getD, List.getElem?_append_right (by omega)]
    by_cases e : k = l.length
    · rw [if_pos e, e, Nat.sub_self]; rfl
    · rw [if_neg e, List.getElem?_eq_none (by simp only [List.length_singleton]; omega)]; rfl
theorem AXr.push {M : q_M} {l : List Nat} (h : AXr M l) (x : Nat) : AXr (stI (stI M 53 l.length (nI x)) 49 4 (nI (l.length + 1))) (l ++ [x]) := by
  refine ⟨?_, fun k hk => ?_⟩
  · rw [gI_self, List.length_append, List.length_singleton]
  · rw [List.length_append, List.length_singleton] at hk
    rw [gI_oth (by omega), getD_app]
    by_cases e : k = l.length
    · rw [e, gI_self, if_neg (Nat.lt_irrefl _), if_pos rfl]
    · rw [gI_oth (by omega), if_pos (by omega)]; exact h.2 k (by omega)
/-- one entry is written -/
theorem R_app {M : q_M} (h : SH M) {l : List Nat} (a : AXr M l) (hl : l.length < 60) (x : Nat) {β : Type} (f : q_M → Option β) : ((q_fR M 12 49 5).bind fun r3 => (q_fI M 12 49 4).bind fun x4 => r3.bind fun a5 => (q_bI M 14 a5 x4 (nI x)).bind fun M6 => (q_fI M6 12 49 4).bind fun x7 => (q_sI M6 12 49 4 (x7 + (nI 1))).bind f) = f (stI (stI M 53 l.length (nI x)) 49 4 (nI (l.length + 1))) := by
  have h2 : SH (stI M 53 l.length (nI x)) := h
  simp only [m_ax h, m_fI h, Option.bind_some, a.1, m_b60 h (Or.inl rfl) hl, m_fI h2, m_sI h2]
  rw [gI_oth (by omega), a.1, nI_add]
