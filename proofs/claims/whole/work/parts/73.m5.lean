/-! ===== THE REFERENCE: digits and boxes ===== -/
/-- only ints where P holds have changed -/
def fr (P : Nat → Nat → Prop) (M M1 : q_M) : Prop := M1.1 = M.1 ∧ M1.2.1 = M.2.1 ∧ M1.2.2.2 = M.2.2.2 ∧ ∀ a k, ¬ P a k → gI M1 a k = gI M a k
theorem fr.rf (P : Nat → Nat → Prop) (M : q_M) : fr P M M := ⟨rfl, rfl, rfl, fun _ _ _ => rfl⟩
theorem fr.tr {P : Nat → Nat → Prop} {M M1 M2 : q_M} (a : fr P M M1) (b : fr P M1 M2) : fr P M M2 := ⟨b.1.trans a.1, b.2.1.trans a.2.1, b.2.2.1.trans a.2.2.1, fun x k h => (b.2.2.2 x k h).trans (a.2.2.2 x k h)⟩
theorem fr.st {P : Nat → Nat → Prop} {M M1 : q_M} (f : fr P M M1) {a k : Nat} {x : Int32} (h : P a k) : fr P M (stI M1 a k x) := by
  refine ⟨f.1, f.2.1, f.2.2.1, fun b j hb => ?_⟩
  rw [gI_stI]
  by_cases e : b = a ∧ j = k
  · obtain ⟨rfl, rfl⟩ := e
    exact absurd h hb
  · rw [if_neg e]; exact f.2.2.2 b j hb
theorem fr.wk {P Q : Nat → Nat → Prop} {M M1 : q_M} (f : fr P M M1) (h : ∀ a k, P a k → Q a k) : fr Q M M1 := ⟨f.1, f.2.1, f.2.2.1, fun a k q => f.2.2.2 a k fun p => q (h a k p)⟩
theorem fr.fm {P : Nat → Nat → Prop} {M M1 : q_M} (f : fr P M M1) (h : ∀ a k, P a k → scr a k) : FM M M1 := f.wk h
theorem fr.sh {P : Nat → Nat → Prop} {M M1 : q_M} (f : fr P M M1) (h : SH M) : SH M1 := by
  obtain ⟨a, b, c, _⟩ := f
  unfold SH gR gN at *
  rw [a, b, c]; exact h
theorem fr.gl {P : Nat → Nat → Prop} {M M1 : q_M} (f : fr P M M1) (a k : Nat) : gL M1 a k = gL M a k := by
  unfold gL; rw [f.2.2.1]
theorem fr.gr {P : Nat → Nat → Prop} {M M1 : q_M} (f : fr P M M1) (a k : Nat) : gR M1 a k = gR M a k := by
  unfold gR; rw [f.2.2.1]
theorem fr.ri {P : Nat → Nat → Prop} {M M1 : q_M} (f : fr P M M1) {v : Nat → Nat} (r : RI M v) : RI M1 v := by
  intro i h1 h2
  rw [f.gl]; exact r i h1 h2
theorem R_splits {M : q_M} (h : SH M) {B m n : Nat} (hB : 2 ≤ B ∧ B ≤ 8) (hm : 1 ≤ m ∧ m ≤ 60) (e1 : gI M 49 3 = nI B) (e2 : gI M 49 4 = nI m) (hn : n < 2 ^ 63) : ∃ M1, q_CL 150 [.inr (.inr (some 49)), .inr (.inl (lN n))] M = some (none, M1) ∧ fr (fun a _ => a = 54) M M1 ∧ ∀ k, k < m → gI M1 54 k = nI (n / B ^ (m - 1 - k) % B) := by
  rw [C_X12_splits]
  simp only [m_fI h, Option.bind_some, e2]
  have key : ∀ j, j ≤ m → ∀ M d2 d4, SH M → gI M 49 3 = nI B → (∀ k, j ≤ k → k < m → gI M 54 k = nI (n / B ^ (m - 1 - k) % B)) → ∃ M1, q_RL T_X12_splits (10, [some (.inr (.inr (some 49))), some (.inr (.inl (lN n))), d2, some (.inr (.inl (lN (n / B ^ (m - j))))), d4, some (.inl (nI j + (-1)))], [], M) = some (none, M1) ∧ fr (fun a _ => a = 54) M M1 ∧ ∀ k, k < m → gI M1 54 k = nI (n / B ^ (m - 1 - k) % B) := by
    intro j
    induction j with
    | zero =>
      intro _ M d2 d4 h e q
      refine ⟨M, ?_, fr.rf _ M, fun k hk => q k (by omega) hk⟩
      rw [E_X12_splits_10, if_pos (by decide +kernel)]
    | succ j ih =>
      intro hj M d2 d4 h e q
      have hd : n / B ^ (m - (j + 1)) < 2 ^ 63 := Nat.lt_of_le_of_lt (Nat.div_le_self _ _) hn
      have h2 : SH (stI M 54 j (nI (n / B ^ (m - (j + 1)) % B))) := h
      have e3 : gI (stI M 54 j (nI (n / B ^ (m - (j + 1)) % B))) 49 3 = nI B := (gI_oth (by omega)).trans e
      have hz : ¬ lN B = 0 := fun q => by
        have := (pk_lEQ (a := B) (b := 0) (by omega) (by omega)).mp q
        omega
      rw [E_X12_splits_10, pk_m1, if_neg (nI_pos (by omega))]
      simp only [m_dg h, m_fI h, Option.bind_some, e, nI_l (show B < 2 ^ 31 by omega)]
      rw [if_neg hz, pk_lRem hd (by omega) (by omega), lN_i, m_b60 h (Or.inr rfl) (by omega)]
      simp only [Option.bind_some, m_fI h2, e3, nI_l (show B < 2 ^ 31 by omega)]
      rw [if_neg hz, pk_lDiv hd (by omega) (by omega), Nat.div_div_eq_div_mul, ← Nat.pow_succ, show (m - (j + 1)).succ = m - j by omega]
      obtain ⟨M1, p1, p2, p3⟩ := ih (by omega) (stI M 54 j (nI (n / B ^ (m - (j + 1)) % B))) (q_kill d2) none h2 e3 (fun k hk1 hk2 => by
        by_cases ek : k = j
        · rw [ek, gI_self, show m - (j + 1) = m - 1 - j by omega]
        · rw [gI_oth (by omega)]; exact q k (by omega) hk2)
      exact ⟨M1, p1, ((fr.rf (fun a _ => a = 54) M).st rfl).tr p2, p3⟩
  rw [pk_sub hm.1, ← pk_m1 (m - 1), show m - 1 + 1 = m by omega]
  have k0 := key m (Nat.le_refl m) M none none h e1 (fun k h1 h2 => by omega)
  rw [Nat.sub_self, Nat.pow_zero, Nat.div_one] at k0
  exact k0
/-- digits joined -/
def jn (B : Nat) (g : Nat → Nat) : Nat → Nat
  | 0 => 0
  | k + 1 => jn B g k * B + g k
theorem jn_lt {B : Nat} {g : Nat → Nat} : ∀ f, (∀ k, k < f → g k < B) → jn B g f < B ^ f
  | 0, _ => by show 0 < 1; omega
  | f + 1, h => kid_lt (jn_lt f fun k hk => h k (by omega)) (h f (by omega))
theorem jn_dg {B n m : Nat} (hB : 0 < B) (hn : n < B ^ m) : ∀ f, f ≤ m → jn B (fun k => n / B ^ (m - 1 - k) % B) f = n / B ^ (m - f)
  | 0, _ => by rw [Nat.sub_zero, Nat.div_eq_of_lt hn]; rfl
  | f + 1, h => by
    show jn B _ f * B + n / B ^ (m - 1 - f) % B = _
    rw [jn_dg hB hn f (by omega), show m - f = (m - 1 - f) + 1 by omega, Nat.pow_succ, ← Nat.div_div_eq_div_mul, show m - (f + 1) = m - 1 - f by omega, Nat.mul_comm]
    exact Nat.div_add_mod _ _
theorem jn_cg {B : Nat} {g g2 : Nat → Nat} : ∀ f, (∀ k, k < f → g k = g2 k) → jn B g f = jn B g2 f
  | 0, _ => rfl
  | f + 1, h => by
    show jn B g f * B + g f = jn B g2 f * B + g2 f
    rw [jn_cg f fun k hk => h k (by omega), h f (by omega)]
theorem R_joined {M : q_M} (h : SH M) {B m : Nat} {g : Nat → Nat} (hB : B < 2 ^ 31) (hm : m ≤ 60) (e1 : gI M 49 3 = nI B) (e2 : gI M 49 4 = nI m) (e3 : ∀ k, k < m → gI M 54 k = nI (g k) ∧ g k < 2 ^ 31) : q_CL 151 [.inr (.inr (some 49))] M = some (some (.inr (.inl (lN (jn B g m)))), M) := by
  rw [C_X12_joined]
  have key : ∀ n k, k + n = m → ∀ d2, q_RL T_X12_joined (4, [some (.inr (.inr (some 49))), some (.inr (.inl (lN (jn B g k)))), d2, some (.inl (nI k))], [], M) = some (some (.inr (.inl (lN (jn B g m)))), M) := by
    intro n
    induction n with
    | zero =>
      intro k hk d2
      rw [E_X12_joined_4]
      simp only [m_fI h, Option.bind_some, e2]
      rw [if_pos (nI_le (by omega) (by omega)), show k = m by omega]
    | succ n ih =>
      intro k hk d2
      have e := e3 k (by omega)
      rw [E_X12_joined_4]
      simp only [m_fI h, m_dg h, Option.bind_some, e1, e2]
      rw [if_neg (nI_ge (by omega) (by omega)), m_a60 h (Or.inr rfl) (by omega), Option.bind_some, e.1, nI_l hB, nI_l e.2, lN_mul, lN_add, nI_1]
      exact ih (k + 1) (by omega) none
  exact key m 0 (by omega) none
/-- the reference's box: low and high -/
def BXf (M : q_M) (lo sd : Nat → Nat) : Prop := ∀ a, a < 3 → gI M 55 a = nI (lo a) ∧ gI M 56 a = nI (lo a + sd a - 1) ∧ lo a + sd a ≤ 2 ^ 21
def b56 (a _k : Nat) : Prop := a = 55 ∨ a = 56
theorem R_narB {M : q_M} (h : SH M) {lo sd : Nat → Nat} (b : BXf M lo sd) {a t B p : Nat} (ha : a < 3) (hB : B = 2 ∨ B = 3) (hp : 0 < p) (hs : sd a = p * B) (ht : t < B) : ∃ M1, q_CL 155 [.inr (.inr (some 49)), .inl (nI a), .inl (nI t), .inl (nI B)] M = some (none, M1) ∧ fr b56 M M1 ∧ BXf M1 (va_up lo a (lo a + t * (sd a / B))) (va_up sd a (sd a / B)) := by
  obtain ⟨b1, b2, b3⟩ := b a ha
  have hq : sd a / B = p := by rw [hs]; exact Nat.mul_div_cancel p (by omega)
  refine ⟨_, R_nar h ha b1 b2 hB (by omega) (by omega), ((fr.rf _ M).st (Or.inl rfl)).st (Or.inr rfl), fun x hx => ?_⟩
  by_cases e : x = a
  · subst e
    rw [va_up_self, va_up_self, gI_self, gI_oth (by omega), gI_self]
    refine ⟨rfl, rfl, ?_⟩
    rw [hq]
    have : t * p + p ≤ sd x := by
      rw [hs, Nat.mul_comm p B, ← Nat.succ_mul]; exact Nat.mul_le_mul_right p (by omega)
    omega
  · rw [va_up_ne _ _ e, va_up_ne _ _ e, gI_oth (by omega), gI_oth (by omega), gI_oth (by omega), gI_oth (by omega)]
    exact b x hx
def bsc (a k : Nat) : Prop := (a = 49 ∧ (k = 10 ∨ k = 11)) ∨ (55 ≤ a ∧ a ≤ 57)
theorem b56_bsc (a k : Nat) (h : b56 a k) : bsc a k := Or.inr (by rcases h with rfl | rfl <;> omega)
theorem bsc_scr (a k : Nat) (h : bsc a k) : scr a k := by
  rcases h with ⟨rfl, h⟩ | h
  · exact Or.inl ⟨rfl, by omega⟩
  · exact Or.inr (by omega)
theorem LYr.fr {M M1 : q_M} {K d : Nat} {L : Nat → Nat} {P : Nat → Nat → Prop} (l : LYr M K d L) (f : fr P M M1) (h : ∀ a k, P a k → ¬ (a = 49 ∧ (k = 3 ∨ k = 4)) ∧ a ≠ 53) : LYr M1 K d L := by
  refine ⟨(f.2.2.2 _ _ fun q => (h _ _ q).1 (by omega)).trans l.1, fun k => (f.2.2.2 _ _ fun q => (h _ _ q).1 (by omega)).trans (l.2.1 k), fun k => ⟨(f.2.2.2 _ _ fun q => (h _ _ q).1 (by omega)).trans (l.2.2 k).1, fun x hx => (f.2.2.2 _ _ fun q => (h _ _ q).2 rfl).trans ((l.2.2 k).2 x hx)⟩⟩
theorem bsc_ly (a k : Nat) (h : bsc a k) : ¬ (a = 49 ∧ (k = 3 ∨ k = 4)) ∧ a ≠ 53 := by
  rcases h with ⟨rfl, h⟩ | h <;> omega
/-! the plain kinds -/
theorem cmO_p {K d : Nat} {L : Nat → Nat} (h2 : K ≠ 2) (h3 : K ≠ 3) : cmO K d L = (2, fun k _ => (owK K L).getD k 0, fun _ _ v => v, fun _ _ _ => 0, fun a => 2 ^ L a) := by
  unfold cmO; rw [if_neg h2, if_neg h3]
theorem cmO_3 (d : Nat) (L : Nat → Nat) : cmO 3 d L = (3, fun k _ => (owW L).getD k 0, fun k s v => snT s ((owW L).getD k 0) v, fun k s v => snN s ((owW L).getD k 0) v, fun a => 3 ^ L a) := by
  unfold cmO; rw [if_neg (by omega), if_pos rfl]
theorem R_bxP {v : Nat → Nat} {i : Nat} (hi : i < 8) (hc : okI v i) (h2 : cK v i ≠ 2) (h3 : cK v i ≠ 3) {f : Nat} (hf : f ≤ lsm (cL v i)) {g : Nat → Nat} {c : Cm} (gd : Gd c (lsm (cL v i))) (e1 : c.1 = 2) (eA : ∀ k s, c.2.1 k s = (owK (cK v i) (cL v i)).getD k 0) (eT : ∀ k s v, c.2.2.1 k s v = v) : ∀ n k, k + n = f → ∀ M d5 d6 d7 d8, SH M → RI M v → LYr M (cK v i) (cD v i) (cL v i) → (∀ k, k < f → gI M 54 k = nI (g k) ∧ g k < 2) → BXf M (bx c k (jn 2 g k)).1 (bx c k (jn 2 g k)).2.1 → ∃ M1, q_RL T_X12_box (66, [some (.inr (.inr (some 49))), some (.inl (nI i)), some (.inl (nI f)), some (.inl (nI (cD v i))), some (.inl (nI k)), d5, d6, d7, d8], [], M) = some (none, M1) ∧ fr bsc M M1 ∧ BXf M1 (bx c f (jn 2 g f)).1 (bx c f (jn 2 g f)).2.1 := by
  obtain ⟨hl, h60⟩ := ow_60 hc
  have k4 := hc.1.1
  intro n
  induction n with
  | zero =>
    intro k hk M d5 d6 d7 d8 h r l g1 b
    refine ⟨M, ?_, fr.rf _ M, ?_⟩
    · rw [E_X12_box_66, if_pos (nI_le (by omega) (by omega))]
    · rw [← show k = f by omega]; exact b
  | succ n ih =>
    intro k hk M d5 d6 d7 d8 h r l g1 b
    have gk := g1 k (by omega)
    rw [E_X12_box_66, if_neg (nI_ge (by omega) (by omega))]
    simp only [m_dg h, Option.bind_some, m_a60 h (Or.inr rfl) (show k < 60 by omega), gk.1, m_sel h, R_kind h r hi, z_rI]
    rw [if_neg (show ¬ nI (cK v i) = nI 2 from fun q => h2 ((nI_eq (by omega) (by omega)).mp q)), if_neg (show ¬ nI (cK v i) = nI 3 from fun q => h3 ((nI_eq (by omega) (by omega)).mp q))]
    simp only [m_ax h, Option.bind_some, m_a60 h (Or.inl rfl) (show k < 60 by omega), (l.2.2 h2).2 k (by omega)]
    have gq := gd.2.1 k (jn 2 g k) (by omega) (by rw [e1]; exact jn_lt k fun x hx => (g1 x (by omega)).2)
    have ek : bx c (k + 1) (jn 2 g (k + 1)) = bs c k (bx c k (jn 2 g k)) (g k) := by
      have := bx_kid (c := c) (by omega) k (jn 2 g k) (v := g k) (by omega)
      rw [← this, e1]; rfl
    unfold bxp bxa at gq
    simp only [e1, eA] at gq
    obtain ⟨q1, q2, q3, q4⟩ := gq
    obtain ⟨M1, p1, p2, p3⟩ := R_narB h b q1 (Or.inl rfl) q2 q3 gk.2
    rw [p1]
    simp only [z_rV, Option.bind_some, nI_1]
    obtain ⟨M2, w1, w2, w3⟩ := ih (k + 1) (by omega) M1 (some (.inl (nI (g k)))) d6 d7 d8 (p2.sh h) (p2.ri r) (l.fr p2 fun a k q => bsc_ly a k (b56_bsc a k q)) (fun x hx => by
      refine ⟨?_, (g1 x hx).2⟩
      rw [p2.2.2.2 54 x (by unfold b56; omega)]; exact (g1 x hx).1) (by
      rw [ek]
      unfold bs
      simp only [e1, eA, eT]
      exact p3)
    exact ⟨M2, w1, (p2.wk b56_bsc).tr w2, w3⟩
/-! SNAIL -/
def suO (U : Nat → Nat) (x : Nat) : Nat → Nat
  | 0 => 0
  | n + 1 => suO U x n + if n = x then 0 else U n
theorem snN_b : ∀ s, s < 8 → ∀ a, a < 3 → ∀ v, v < 3 → snN s a v < 8 ∧ ∀ b, b < 3 → snN s a v / 2 ^ b % 2 = if b = a then (s / 2 ^ b + v) % 2 else s / 2 ^ b % 2 := by decide +kernel
theorem snO_u {s d x : Nat} {U : Nat → Nat} (hd : d = 2 ∨ d = 3) (hx : x < d) (hU : ∀ a, a < 3 → U a % 2 = s / 2 ^ a % 2) (hz : ∀ a, d ≤ a → a < 3 → U a = 0) : suO U x d % 2 = snO s x := by
  have a0 := hU 0 (by omega)
  have a1 := hU 1 (by omega)
  have a2 := hU 2 (by omega)
  simp only [Nat.pow_zero, Nat.div_one, Nat.pow_one] at a0 a1
  rw [show (2 : Nat) ^ 2 = 4 from rfl] at a2
  have e2 : suO U x 2 = (if 0 = x then 0 else U 0) + (if 1 = x then 0 else U 1) := by
    show 0 + (if 0 = x then 0 else U 0) + (if 1 = x then 0 else U 1) = _
    omega
  have e3 : suO U x 3 = suO U x 2 + (if 2 = x then 0 else U 2) := rfl
  unfold snO
  rcases hd with rfl | rfl
  · have z2 := hz 2 (by omega) (by omega)
    rw [e2]
    rcases (show x = 0 ∨ x = 1 by omega) with rfl | rfl
    · simp only [reduceIte, show ¬ (1 : Nat) = 0 by omega, show ¬ (0 : Nat) = 1 by omega, show ¬ (0 : Nat) = 2 by omega]; omega
    · simp only [reduceIte, show ¬ (1 : Nat) = 0 by omega, show ¬ (0 : Nat) = 1 by omega, show ¬ (1 : Nat) = 2 by omega]; omega
  · rw [e3, e2]
    rcases (show x = 0 ∨ x = 1 ∨ x = 2 by omega) with rfl | rfl | rfl
    · simp only [reduceIte, show ¬ (1 : Nat) = 0 by omega, show ¬ (2 : Nat) = 0 by omega, show ¬ (0 : Nat) = 1 by omega, show ¬ (0 : Nat) = 2 by omega]; omega
    · simp only [reduceIte, show ¬ (1 : Nat) = 0 by omega, show ¬ (0 : Nat) = 1 by omega, show ¬ (1 : Nat) = 2 by omega, show ¬ (2 : Nat) = 1 by omega]; omega
    · simp only [reduceIte, show ¬ (1 : Nat) = 2 by omega, show ¬ (0 : Nat) = 2 by omega, show ¬ (2 : Nat) = 1 by omega, show ¬ (2 : Nat) = 0 by omega]; omega
theorem and1 {n : Nat} (h : n < 2 ^ 31) : (nI n &&& nI 1) = nI 1 ↔ n % 2 = 1 := by
  rw [pk_andN (show n < 2 ^ 32 by omega) 1 (by decide +kernel)]
  exact nI_eq (by omega) (by omega)
/-- sums and the state of SNAIL -/
def SNr (M : q_M) (d k s : Nat) (U : Nat → Nat) : Prop := s < 8 ∧ (∀ a, a < 3 → gI M 57 a = nI (U a) ∧ U a ≤ 2 * k ∧ U a % 2 = s / 2 ^ a % 2) ∧ ∀ a, d ≤ a → a < 3 → U a = 0
theorem R_bxS {v : Nat → Nat} {i : Nat} (hi : i < 8) (hc : okI v i) (h3 : cK v i = 3) {f : Nat} (hf : f ≤ lsm (cL v i)) {g : Nat → Nat} {c : Cm} (gd : Gd c (lsm (cL v i))) (e1 : c.1 = 3) (eA : ∀ k s, c.2.1 k s = (owW (cL v i)).getD k 0) (eT : ∀ k s v', c.2.2.1 k s v' = snT s ((owW (cL v i)).getD k 0) v') (eN : ∀ k s v', c.2.2.2.1 k s v' = snN s ((owW (cL v i)).getD k 0) v') : ∀ n k, k + n = f → ∀ M d5 d6 d7 d8 U, SH M → RI M v → LYr M (cK v i) (cD v i) (cL v i) → (∀ k, k < f → gI M 54 k = nI (g k) ∧ g k < 3) → BXf M (bx c k (jn 3 g k)).1 (bx c k (jn 3 g k)).2.1 → SNr M (cD v i) k (bx c k (jn 3 g k)).2.2 U → ∃ M1, q_RL T_X12_box (66, [some (.inr (.inr (some 49))), some (.inl (nI i)), some (.inl (nI f)), some (.inl (nI (cD v i))), some (.inl (nI k)), d5, d6, d7, d8], [], M) = some (none, M1) ∧ fr bsc M M1 ∧ BXf M1 (bx c f (jn 3 g f)).1 (bx c f (jn 3 g f)).2.1 := by
  obtain ⟨hl, h60⟩ := ow_60 hc
  obtain ⟨⟨k4, kd, kL, _, kz, ke, k3⟩, _⟩ := hc
  have el := owN_md kd (fun a ha => ke (Or.inr (Or.inr h3)) a ha) kz 20
  rw [show min 20 (cL v i 0) = cL v i 0 by have := kL 0 (by omega); omega] at el
  have eo : owK (cK v i) (cL v i) = owW (cL v i) := by unfold owK; rw [if_neg (by omega)]
  have ew : owW (cL v i) = owN (cL v i) 20 := rfl
  intro n
  induction n with
  | zero =>
    intro k hk M d5 d6 d7 d8 U h r l g1 b _
    refine ⟨M, ?_, fr.rf _ M, ?_⟩
    · rw [E_X12_box_66, if_pos (nI_le (by omega) (by omega))]
    · rw [← show k = f by omega]; exact b
  | succ n ih =>
    intro k hk M d5 d6 d7 d8 U h r l g1 b sn
    have gk := g1 k (by omega)
    obtain ⟨s8, sU, sz⟩ := sn
    have hax : (owW (cL v i)).getD k 0 < cD v i := by
      rw [ew, el.2 k (by rw [← el.1, ← ew, ← eo, hl]; omega)]
      exact Nat.mod_lt _ (by omega)
    rw [E_X12_box_66, if_neg (nI_ge (by omega) (by omega))]
    simp only [m_dg h, Option.bind_some, m_a60 h (Or.inr rfl) (show k < 60 by omega), gk.1, m_sel h, R_kind h r hi, z_rI]
    rw [if_neg (show ¬ nI (cK v i) = nI 2 from fun q => by have := (nI_eq (by omega) (by omega)).mp q; omega), if_pos (by rw [h3])]
    have lx := (l.2.2 (by omega)).2 k (by omega)
    rw [eo] at lx
    simp only [m_ax h, Option.bind_some, m_a60 h (Or.inl rfl) (show k < 60 by omega), lx]
    have gq := gd.2.1 k (jn 3 g k) (by omega) (by rw [e1]; exact jn_lt k fun x hx => (g1 x (by omega)).2)
    have ek : bx c (k + 1) (jn 3 g (k + 1)) = bs c k (bx c k (jn 3 g k)) (g k) := by
      have := bx_kid (c := c) (by omega) k (jn 3 g k) (v := g k) (by omega)
      rw [← this, e1]; rfl
    unfold bxp bxa at gq
    simp only [e1, eA] at gq
    obtain ⟨q1, q2, q3, q4⟩ := gq
    have hso := snO_u kd hax (fun a ha => (sU a ha).2.2) sz
    generalize hxx : (owW (cL v i)).getD k 0 = x at *
    generalize hs : (bx c k (jn 3 g k)).2.2 = s at *
    have sul : ∀ m, m ≤ 3 → suO U x m ≤ m * 120 := by
      intro m
      induction m with
      | zero => intro _; exact Nat.le_refl 0
      | succ m ihm =>
        intro hm
        show suO U x m + (if m = x then 0 else U m) ≤ _
        have a1 := ihm (by omega)
        have a2 := (sU m (by omega)).2.1
        by_cases e : m = x
        · rw [if_pos e]; omega
        · rw [if_neg e]; omega
    have fin : ∀ t x7, t = snT s x (g k) → ∃ M1, ((q_rV (q_CL 155 [.inr (.inr (some 49)), .inl (nI x), .inl (nI t), .inl (nI 3)] M)).bind fun M9 => (q_fR M9 12 49 9).bind fun r10 => r10.bind fun a11 => (q_aI M9 14 a11 (nI x)).bind fun x12 => r10.bind fun a13 => (q_bI M9 14 a13 (nI x) (x12 + nI (g k))).bind fun M14 => q_RL T_X12_box (66, [some (.inr (.inr (some 49))), some (.inl (nI i)), some (.inl (nI f)), some (.inl (nI (cD v i))), some (.inl (nI k + 1)), some (.inl (nI (g k))), some (.inl (nI x)), some (.inl x7), some (.inl (nI (cD v i)))], [], M14)) = some (none, M1) ∧ fr bsc M M1 ∧ BXf M1 (bx c f (jn 3 g f)).1 (bx c f (jn 3 g f)).2.1 := by
      intro t x7 et
      have ht3 : t < 3 := by rw [et]; exact (snT_ok s x (g k) gk.2).1
      obtain ⟨M1, p1, p2, p3⟩ := R_narB h b q1 (Or.inr rfl) q2 q3 ht3
      have h1 := p2.sh h
      have eu : gI M1 57 x = nI (U x) := by rw [p2.2.2.2 57 x (by unfold b56; omega)]; exact (sU x q1).1
      rw [p1]
      simp only [z_rV, Option.bind_some, m_su h1, m_a3 h1 (Or.inr (Or.inr rfl)) q1, eu, nI_add, nI_1, m_b3 h1 (Or.inr (Or.inr rfl)) q1]
      have f2 : fr bsc M (stI M1 57 x (nI (U x + g k))) := (p2.wk b56_bsc).st (Or.inr (by omega))
      obtain ⟨M2, w1, w2, w3⟩ := ih (k + 1) (by omega) (stI M1 57 x (nI (U x + g k))) (some (.inl (nI (g k)))) (some (.inl (nI x))) (some (.inl x7)) (some (.inl (nI (cD v i)))) (va_up U x (U x + g k)) (f2.sh h) (f2.ri r) (l.fr f2 bsc_ly) (fun y hy => by
        refine ⟨?_, (g1 y hy).2⟩
        rw [f2.2.2.2 54 y (by unfold bsc; omega)]; exact (g1 y hy).1) (by
        rw [ek]
        unfold bs
        simp only [e1, eA, eT, hs, hxx]
        rw [← et]
        intro y hy
        rw [gI_oth (by omega), gI_oth (by omega)]
        exact p3 y hy) (by
        rw [ek]
        unfold bs
        simp only [eN, hs, hxx]
        have sb := snN_b s s8 x q1 (g k) gk.2
        refine ⟨sb.1, fun y hy => ?_, fun y hy1 hy2 => ?_⟩
        · rw [sb.2 y hy]
          have := sU y hy
          by_cases e : y = x
          · rw [e, va_up_self, gI_self, if_pos rfl]
            rw [e] at this
            generalize s / 2 ^ x = sx at *
            exact ⟨rfl, by omega, by omega⟩
          · rw [va_up_ne _ _ e, gI_oth (by omega), if_neg e, p2.2.2.2 57 y (by unfold b56; omega)]
            exact ⟨this.1, by omega, this.2.2⟩
        · rw [va_up_ne _ _ (by omega)]; exact sz y hy1 hy2)
      exact ⟨M2, w1, f2.tr w2, w3⟩
    have inner : ∀ m y, y + m = cD v i → ∃ M1, q_RL T_X12_box (181, [some (.inr (.inr (some 49))), some (.inl (nI i)), some (.inl (nI f)), some (.inl (nI (cD v i))), some (.inl (nI k)), some (.inl (nI (g k))), some (.inl (nI x)), some (.inl (nI (suO U x y))), some (.inl (nI y))], [], M) = some (none, M1) ∧ fr bsc M M1 ∧ BXf M1 (bx c f (jn 3 g f)).1 (bx c f (jn 3 g f)).2.1 := by
      intro m
      induction m with
      | zero =>
        intro y hy
        rw [show y = cD v i by omega]
        have sl := sul (cD v i) (by omega)
        rw [E_X12_box_181, if_pos (nI_le (Nat.le_refl _) (by omega))]
        simp only [m_sel h, Option.bind_some, and1 (show suO U x (cD v i) < 2 ^ 31 by omega), hso]
        by_cases ho : snO s x = 1
        · rw [if_pos ho, pk_sub (show g k ≤ 2 by omega)]
          exact fin (2 - g k) _ (by unfold snT; rw [if_pos ho])
        · rw [if_neg ho]
          exact fin (g k) _ (by unfold snT; rw [if_neg ho])
      | succ m ihm =>
        intro y hy
        rw [E_X12_box_181, if_neg (nI_ge (by omega) (by omega))]
        by_cases e : y = x
        · rw [if_pos (by rw [e]), nI_add, nI_1]
          have := ihm (y + 1) (by omega)
          rw [show suO U x (y + 1) = suO U x y + 0 by show suO U x y + (if y = x then 0 else U y) = _; rw [if_pos e]] at this
          exact this
        · rw [if_neg (fun q => e ((nI_eq (by omega) (by omega)).mp q))]
          simp only [m_su h, Option.bind_some, m_a3 h (Or.inr (Or.inr rfl)) (show y < 3 by omega), (sU y (by omega)).1, nI_add, nI_1]
          have := ihm (y + 1) (by omega)
          rw [show suO U x (y + 1) = suO U x y + U y by show suO U x y + (if y = x then 0 else U y) = _; rw [if_neg e]] at this
          exact this
    exact inner (cD v i) 0 (by omega)
