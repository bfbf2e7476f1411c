theorem K_offer {M : q_M} {f wh fa Z n rd c x p lim most : Nat} {P : Nat → Nat → Nat} {d Q : Nat → Nat} (h : SH M) (s : FS M f wh fa Z) (q : FQ M f wh fa n P d rd) (hl : lim ≤ 300) (hm : most = if Z < lim then Z else lim) (hn : n ≤ most) (pc : PO M c Q) (hp : p ≤ n) (hx : x < 2 ^ 62) (hd : ∀ r, r < n → d r < 2 ^ 62 ∧ P r 0 < 2 ^ 31) (h0 : Q 0 < 2 ^ 31) (b1 : ∀ r, p ≤ r → r < n → bfr x Q (d r) (P r)) (b2 : 0 < p → ¬ bfr x Q (d (p - 1)) (P (p - 1))) : (most ≤ p → q_CL 10 [.inr (.inr (some f)), .inr (.inr (some c)), .inr (.inl (lN x)), .inl (nI lim)] M = some (none, M)) ∧ (p < most → ∃ M1, q_CL 10 [.inr (.inr (some f)), .inr (.inr (some c)), .inr (.inl (lN x)), .inl (nI lim)] M = some (none, M1) ∧ FC (fdc f wh fa) M M1 ∧ FQ M1 f wh fa (if n < most then n + 1 else most) (inP P p Q) (inD d p x) rd ∧ FS M1 f wh fa Z) := by
  have i := s.is
  have s10 := s.2.2.2.2.2.2.2.2.2
  have mz : most ≤ Z := by rw [hm]; split <;> omega
  have q0 := q
  obtain ⟨q1, q2, q3⟩ := q
  have ln : q_len M wh = some (nI Z) := by unfold q_len; rw [s.2.2.2.1, if_pos (by omega), s.2.2.2.2.1]; rfl
  have em : (if nI Z < nI lim then nI Z else nI lim) = nI most := by
    rw [hm]
    by_cases z : Z < lim
    · rw [if_pos (nI_lt z (by omega)), if_pos z]
    · rw [if_neg (nI_nlt (by omega) (by omega)), if_neg z]
  have go : ∀ k i', i' = p + k → i' ≤ n → q_RL T_X1_offer (18, [some (.inr (.inr (some f))), some (.inr (.inr (some c))), some (.inr (.inl (lN x))), none, some (.inl (nI lim)), some (.inl (nI most)), some (.inl (nI i')), none], [], M) = q_RL T_X1_offer (42, [some (.inr (.inr (some f))), some (.inr (.inr (some c))), some (.inr (.inl (lN x))), none, some (.inl (nI lim)), some (.inl (nI most)), some (.inl (nI p)), none], [], M) := by
    intro k
    induction k with
    | zero =>
      intro i' hi hin
      rw [Nat.add_zero] at hi
      subst hi
      rw [E_X1_offer_18, E_X1_offer_42]
      by_cases z : i' = 0
      · rw [z, if_pos (by rw [nI_0]; decide)]
      · rw [if_neg (nI_nle (by omega) (by omega))]
        have hd1 := hd (i' - 1) (by omega)
        have ib := (K_isBef s q0 (by omega) pc (show i' - 1 < n by omega) hx hd1.1 h0 hd1.2).2 (b2 (by omega))
        simp only [z_sel s.1, Option.bind_some, pk_sub (show 1 ≤ i' by omega), ib, z_rI]
        rw [if_pos nI_0]
    | succ k ih =>
      intro i' hi hin
      rw [E_X1_offer_18, if_neg (nI_nle (by omega) (by omega))]
      have hd1 := hd (i' - 1) (by omega)
      have ib := (K_isBef s q0 (by omega) pc (show i' - 1 < n by omega) hx hd1.1 h0 hd1.2).1 (b1 (i' - 1) (by omega) (by omega))
      have ei : nI i' + (-1) = nI (i' - 1) := by rw [show i' = i' - 1 + 1 by omega, pk_m1]; rfl
      simp only [z_sel s.1, Option.bind_some, pk_sub (show 1 ≤ i' by omega), ib, z_rI, ei]
      rw [if_neg (show ¬ nI 1 = 0 by decide +kernel)]
      exact ih (i' - 1) (by omega) (by omega)
  rw [C_X1_offer]
  simp only [z_fR i, s.2.1, Option.bind_some, ln, z_fI i, q1, em]
  rw [go (n - p) n (by omega) (Nat.le_refl _), E_X1_offer_42]
  refine ⟨fun z => by rw [if_neg (nI_nlt z (by omega))], fun z => ?_⟩
  rw [if_pos (nI_lt z (by omega))]
  have en : (if nI most < nI n + nI 1 then nI most else nI n + nI 1) = nI (if n < most then n + 1 else most) := by
    rw [nI_add]
    by_cases y : n < most
    · rw [if_neg (nI_nlt (by omega) (by omega)), if_pos y]
    · rw [if_pos (nI_lt (by omega) (by omega)), if_neg y]
  simp only [z_fI i, q1, Option.bind_some, en, z_sI i]
  have n'1 : 1 ≤ (if n < most then n + 1 else most) ∧ (if n < most then n + 1 else most) ≤ n + 1 ∧ (if n < most then n + 1 else most) ≤ most ∧ p < (if n < most then n + 1 else most) := by split <;> omega
  generalize (if n < most then n + 1 else most) = n' at *
  obtain ⟨nd1, nd2, nd3⟩ := s.nd
  have f1 : FC (fdc f wh fa) M (stI M f 2 (nI n')) := (FC.rf (fdc f wh fa) M).sI (Or.inl rfl)
  have s1 : FS (stI M f 2 (nI n')) f wh fa Z := s.fc f1 rfl rfl
  have i1 : q_isT 1 ((stI M f 2 (nI n')).1 f) = true := i
  have g1 : gI (stI M f 2 (nI n')) f 2 = nI n' := gI_self
  have ns := s.n23 h
  obtain ⟨M1, u1, u2, u3, u4⟩ := K_of73 (n := n) (rd := rd) (c := c) (x := x) (p := p) (n' := n') (P := P) (d := d) (Q := Q) (f1.sh h) s1 (fun r hr => by
    obtain ⟨a, c', b1, b2⟩ := q3 r hr
    exact ⟨a, c', b1, b2.fc f1 ns (s.n63 b2.2.2.2.2.2.2.2.1)⟩) ((gI_oth (by omega)).trans q2) g1 n'1.2.1 (by omega) n'1.2.2.2 (pc.fc f1 ns (s.n63 pc.2.2.2.2.2.2.2.1)) (d3 := none) (x4 := nI lim) (x5 := nI most) (n' - 1 - p) (n' - 1) (by omega) (by omega) (stI M f 2 (nI n')) (FC.rf _ _) s1 (fun _ => rfl) (fun r hr ne => by rw [if_neg (by omega), if_neg (by omega)]; exact ⟨rfl, rfl⟩)
  refine ⟨M1, ?_, f1.tr u2, u3, u4⟩
  simp only [z_fI i1, g1, Option.bind_some, pk_sub n'1.1]
  exact u1
/-! weights -/
def wtS (P : Nat → Nat → Nat) : Nat → Nat
  | 0 => 0
  | n + 1 => wtS P n + P n 4
theorem wtS_cg {P P' : Nat → Nat → Nat} : ∀ n, (∀ r, r < n → P' r 4 = P r 4) → wtS P' n = wtS P n
  | 0, _ => rfl
  | n + 1, h => by
    show wtS P' n + P' n 4 = wtS P n + P n 4
    rw [wtS_cg n (fun r hr => h r (by omega)), h n (by omega)]
theorem K_wtsF {M : q_M} {f wh fa Z n rd : Nat} {P : Nat → Nat → Nat} {d : Nat → Nat} (s : FS M f wh fa Z) (q : FQ M f wh fa n P d rd) (hn : n ≤ Z) : q_CL 11 [.inr (.inr (some f))] M = some (some (.inl (nI (wtS P n))), M) := by
  have i := s.is
  have s10 := s.2.2.2.2.2.2.2.2.2
  rw [C_X1_weights]
  have key : ∀ m y, y + m = n → q_RL T_X1_weights (4, [some (.inr (.inr (some f))), some (.inl (nI (wtS P y))), some (.inl (nI y))], [], M) = some (some (.inl (nI (wtS P n))), M) := by
    intro m
    induction m with
    | zero =>
      intro y hy
      rw [E_X1_weights_4]
      simp only [z_fI i, q.1, Option.bind_some]
      rw [if_pos (nI_le (by omega) (by omega)), show y = n by omega]
    | succ m ih =>
      intro y hy
      obtain ⟨a, c, b1, b2⟩ := q.2.2 y (by omega)
      rw [E_X1_weights_4]
      simp only [z_fI i, q.1, Option.bind_some]
      rw [if_neg (nI_ge (by omega) (by omega))]
      simp only [z_fR i, s.2.1, Option.bind_some, z_aR (show 17 ≤ M.1 wh ∧ M.1 wh ≤ 22 by have := s.2.2.2.1; omega) s.2.2.2.2.1 (show y < Z by omega) (show Z ≤ 2147483647 by omega), b1, b2.f.2.2.2.2.2, nI_add, nI_1]
      exact ih (y + 1) (by omega)
  exact key n 0 (by omega)
/-- the finds of the state at b -/
def FN (M : q_M) (b : Nat) (v : Nat → Nat) : Prop := v 457 ≤ 300 ∧ ∃ P, FQ M (b + 7) (b + 8) (b + 9) (v 457) P (fun r => v (461 + 2 * r)) (v 459) ∧ (∀ r, r < v 457 → P r 0 = v (460 + 2 * r) ∧ P r 0 ≤ 9999) ∧ wtS P (v 457) = v 458
theorem FN.fb {P : Nat → Prop} {n s : Nat} {M M1 : q_M} (f : FB P n s M M1) (g : 63 ≤ gN M) (hp : ∀ a, a < gN M → P a → a < 63 ∧ a ≠ 23) {b : Nat} (hb : b + 21 ≤ gN M) (hq : ¬ P (b + 7) ∧ ¬ P (b + 8) ∧ ¬ P (b + 9)) {v : Nat → Nat} (h : FN M b v) : FN M1 b v := by
  obtain ⟨h1, Q, h2, h3⟩ := h
  refine ⟨h1, Q, h2.kp (f.kp g hp) (fun x => ?_), h3⟩
  exact ⟨(f.2.2.2.2.1 (b + 7) x (by omega) hq.1).1, (f.2.2.2.2.1 (b + 9) x (by omega) hq.2.2).2.1, (f.2.2.2.2.1 (b + 8) x (by omega) hq.2.1).2.2⟩
theorem FN.cg {M : q_M} {b : Nat} {v u : Nat → Nat} (h : FN M b v) (e : ∀ x, 457 ≤ x → x < 1060 → u x = v x) : FN M b u := by
  obtain ⟨h1, Q, h2, h3, h4⟩ := h
  have e7 := e 457 (by omega) (by omega)
  refine ⟨by rw [e7]; exact h1, Q, ?_, fun r hr => ?_, by rw [e7, e 458 (by omega) (by omega)]; exact h4⟩
  · rw [e7, e 459 (by omega) (by omega)]
    exact h2.cg (fun r hr => ⟨rfl, e _ (by omega) (by omega)⟩)
  · rw [e7] at hr
    rw [e _ (by omega) (by omega)]
    exact h3 r hr
/-! found, spent -/
theorem K_found_no {v : Nat → Nat} {M : q_M} (h : SH M) (fn : FN M 2 v) {x1 x2 : Int32} (n : ¬ (∃ i t, x1 = nI i ∧ i < v 457 ∧ x2 = nI t ∧ t < 2)) : q_CL 115 [.inr (.inr (some 1)), .inl x1, .inl x2] M = some (some (.inr (.inl (-1))), M) := by
  obtain ⟨f1, P, f2, f3, f4⟩ := fn
  have i := (FS_now h).is
  have q1 : gI M 9 2 = nI (v 457) := f2.1
  rw [C_X11_found]
  by_cases c0 : x1 < 0
  · rw [if_pos c0]
  rw [if_neg c0]
  obtain ⟨k, hk, rfl⟩ := nI_of c0
  simp only [c_now h (show (1, 0, 2) ∈ q_crs by decide), s_now h (show (2, 5, 9) ∈ q_crs by decide), Option.bind_some, z_fI i, q1]
  by_cases c1 : v 457 ≤ k
  · rw [if_pos (nI_le c1 hk)]
  rw [if_neg (nI_ge (by omega) (by omega))]
  by_cases c2 : x2 < 0
  · rw [if_pos c2]
  rw [if_neg c2]
  obtain ⟨t, ht, rfl⟩ := nI_of c2
  by_cases c3 : t ≤ 1
  · exact absurd ⟨k, t, rfl, by omega, rfl, by omega⟩ n
  · rw [if_neg (nI_ge (by omega) ht)]
theorem K_found {v : Nat → Nat} {M : q_M} (h : SH M) (fn : FN M 2 v) {i t : Nat} (hi : i < v 457) (ht : t < 2) : q_CL 115 [.inr (.inr (some 1)), .inl (nI i), .inl (nI t)] M = some (some (.inr (.inl (lN (v (460 + 2 * i + t))))), M) := by
  obtain ⟨f1, P, f2, f3, f4⟩ := fn
  have s := FS_now h
  have i' := s.is
  have q1 : gI M 9 2 = nI (v 457) := f2.1
  obtain ⟨a, c, b1, b2⟩ := f2.2.2 i hi
  have a' : gL M 11 i = lN (v (461 + 2 * i)) := a
  have b1' : gR M 10 i = some c := b1
  have hb : v (460 + 2 * i) < 2 ^ 31 := by have := f3 i hi; omega
  rw [C_X11_found, if_neg (nI_pos (by omega))]
  simp only [c_now h (show (1, 0, 2) ∈ q_crs by decide), s_now h (show (2, 5, 9) ∈ q_crs by decide), Option.bind_some, z_fI i', q1]
  rw [if_neg (nI_ge hi (by omega)), if_neg (nI_pos (by omega)), if_pos (nI_le (by omega) (by omega))]
  rcases (show t = 0 ∨ t = 1 by omega) with rfl | rfl
  · rw [if_pos nI_0]
    simp only [z_fR i', s.2.1, Option.bind_some, z_aR (show 17 ≤ M.1 10 ∧ M.1 10 ≤ 22 by have := s.2.2.2.1; omega) s.2.2.2.2.1 (show i < 300 by omega) (by decide), b1', b2.f.1, (f3 i hi).1, nI_l hb]
    rfl
  · rw [if_neg (show ¬ nI 1 = 0 by decide +kernel)]
    simp only [z_fR i', s.2.2.1, Option.bind_some, z_aL s.2.2.2.2.2.1 s.2.2.2.2.2.2.1 (show i < 300 by omega) (by decide), a']
    rw [show 460 + 2 * i + 1 = 461 + 2 * i by omega]
theorem K_spent_no {M : q_M} {x1 : Int32} (n : ¬ (∃ t, x1 = nI t ∧ t < 3)) : q_CL 116 [.inr (.inr (some 1)), .inl x1] M = some (some (.inl (-1)), M) := by
  rw [C_X11_spent, if_neg (fun z => n ⟨0, z, by omega⟩), if_neg (fun z => n ⟨1, z, by omega⟩), if_neg (fun z => n ⟨2, z, by omega⟩)]
theorem K_spent {v : Nat → Nat} {M : q_M} (h : SH M) (fn : FN M 2 v) {t : Nat} (ht : t < 3) : q_CL 116 [.inr (.inr (some 1)), .inl (nI t)] M = some (some (.inl (nI (v (457 + t)))), M) := by
  obtain ⟨f1, P, f2, f3, f4⟩ := fn
  have s := FS_now h
  have i' := s.is
  have q1 : gI M 9 2 = nI (v 457) := f2.1
  have q2 : gI M 9 3 = nI (v 459) := f2.2.1
  have kw := K_wtsF s f2 f1
  rw [C_X11_spent]
  rcases (show t = 0 ∨ t = 1 ∨ t = 2 by omega) with rfl | rfl | rfl
  · rw [if_pos rfl]
    simp only [c_now h (show (1, 0, 2) ∈ q_crs by decide), s_now h (show (2, 5, 9) ∈ q_crs by decide), Option.bind_some, z_fI i', q1]
  · rw [if_neg (show ¬ nI 1 = nI 0 by decide +kernel), if_pos rfl]
    simp only [c_now h (show (1, 0, 2) ∈ q_crs by decide), s_now h (show (2, 5, 9) ∈ q_crs by decide), Option.bind_some, z_sel s.1, kw, z_rI, f4]
  · rw [if_neg (show ¬ nI 2 = nI 0 by decide +kernel), if_neg (show ¬ nI 2 = nI 1 by decide +kernel), if_pos rfl]
    simp only [c_now h (show (1, 0, 2) ∈ q_crs by decide), s_now h (show (2, 5, 9) ∈ q_crs by decide), Option.bind_some, z_fI i', q2]
