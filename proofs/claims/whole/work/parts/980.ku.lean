/-! ===== THE CLASS: an act ===== -/
/-- what an act does to the state -/
def acT (v u : Nat → Nat) (j : Nat) : Prop := u (oS j) = 1 ∧ u (oS j + 1) = v (oS j + 1) ∧ u (60180 + j) = (if 6 ≤ v (60180 + j) then v (60180 + j) else v (60180 + j) + 1) ∧ (∀ x, x < 49 → u x = v x) ∧ (∀ n x, 1 ≤ n → n ≤ 6 → x < 2110 → u (oS j + 2110 * n + x) = v (oS j + 2110 * (n - 1) + x)) ∧ (∀ k x, k < 4 → k ≠ j → x < 14770 → u (oS k + x) = v (oS k + x)) ∧ ∀ k, k < 4 → k ≠ j → u (60180 + k) = v (60180 + k)
theorem acT_of {v u : Nat → Nat} {j : Nat} (hj : j < 4) (e : v (oS j) = 1) (d : ∀ x, x < oS j + 2 ∨ oS j + 2110 ≤ x → u x = kpU v j x) : acT v u j := by
  obtain ⟨k1, k2, k3, k4, k5, k6⟩ := kpU_a (v := v) hj
  have ob := oS_b hj
  have q0 := k2 0 (by omega)
  rw [Nat.add_zero] at q0
  refine ⟨(d _ (by omega)).trans (q0.trans e), (d _ (by omega)).trans (k2 1 (by omega)), (d _ (by omega)).trans k5, fun x hx => (d x (by omega)).trans (k1 x (by omega)), fun n x n1 n2 hx => (d _ (by omega)).trans (k3 n x n1 n2 hx), fun k x hk ne hx => (d _ ?_).trans (k4 k x hk ne hx), fun k hk ne => (d _ (by omega)).trans (k6 k hk ne)⟩
  unfold oS
  omega
/-- the last step of an act: l is where the row goes -/
theorem K_act47 {v u : Nat → Nat} (sv : SV v) {M A : q_M} (h : SH M) (hs : HS M 2 v) {j : Nat} (hj : j < 4) (e : v (oS j) = 1) {rn : Nat} (rw_ : RW M rn u (oS j)) (ac : acT v u j) {l : Nat} (hl : l ≤ 5) (el : u (60180 + j) = l + 1) (f : FC (sh2 j) M A) (i3 : gI A (15 + 2 * j) 3 = nI l) (r0 : ∀ k, gR A (15 + 2 * j) k = gR M (15 + 2 * j) k) (rp : ∀ n, 2 ≤ n → n ≤ l + 1 → gR A (16 + 2 * j) (l + 1 - n) = gR M (16 + 2 * j) (v (60180 + j) - (n - 1))) (ll : l ≤ v (60180 + j)) : ∃ M1, q_RL T_X5_act (47, [some (.inr (.inr (some (15 + 2 * j)))), some (.inr (.inr (some rn))), none], [], A) = some (none, M1) ∧ FC (sh2 j) M M1 ∧ HS M1 2 u := by
  obtain ⟨c1, c2, c3, c4, c5, c6, c7⟩ := ac
  obtain ⟨t1, t2, t3, t4, t5⟩ := h_t h hj
  have hA := f.sh h
  obtain ⟨s1, s2, s3, s4, s5⟩ := h_t hA hj
  have i0 := h_is hA hj
  rcases hs j hj with ⟨a1, _⟩ | ⟨a1, a2, c, r, a3, a4, a5, a6, a7⟩
  · omega
  rw [show 2 + 13 + 2 * j = 15 + 2 * j by omega] at a2 a3 a5
  rw [show 2 + 14 + 2 * j = 16 + 2 * j by omega] at a7
  have tr : A.1 r = 3 := by
    obtain ⟨ps, sz, x, _⟩ := a6
    rw [f.1]; exact x.1
  have may : q_may A (A.1 (16 + 2 * j)) (some r) = true := by rw [s2]; show Nat.beq (A.1 r) 3 = true; rw [tr]; rfl
  have fB : FC (sh2 j) M (stR (stI (stR A (16 + 2 * j) l (some r)) (15 + 2 * j) 3 (nI (l + 1))) (15 + 2 * j) 1 (some rn)) := ((f.sR (Or.inr rfl) (h_isc2 hj)).sI (Or.inl rfl)).sR (Or.inl rfl) (h_isc hj (by omega))
  have kp := fB.kp (sh2_63 hj)
  refine ⟨_, ?_, fB, HS.oth fB hj sv hs c4 c6 c7 (Or.inr ?_)⟩
  · rw [E_X5_act_47]
    have i1 : q_isT 5 ((stR A (16 + 2 * j) l (some r)).1 (15 + 2 * j)) = true := i0
    have i2 : q_isT 5 ((stI (stR A (16 + 2 * j) l (some r)) (15 + 2 * j) 3 (nI (l + 1))).1 (15 + 2 * j)) = true := i0
    have g1 : gI (stR A (16 + 2 * j) l (some r)) (15 + 2 * j) 3 = nI l := i3
    simp only [z_fR i0, s5, Option.bind_some, z_fI i0, i3, r0 1, a5, z_bR (v := some r) ⟨show 17 ≤ A.1 (16 + 2 * j) by omega, show A.1 (16 + 2 * j) ≤ 21 by omega, may⟩ s3 (show l < 6 by omega) (by decide), z_fI i1, g1, nI_add, z_sI i1, z_sR i2]
  · rw [show 2 + 13 + 2 * j = 15 + 2 * j by omega, show 2 + 14 + 2 * j = 16 + 2 * j by omega]
    have sl := (sv.2 j hj).2.2 e
    refine ⟨c1, by rw [el]; exact gI_self, c, rn, ?_, ?_, ?_, rw_.kp kp, fun n n1 n2 => ?_⟩
    · rw [gR_stR, if_neg (by omega), gR_stI, gR_stR, if_neg (by omega), r0]; exact a3
    · rw [c2]
      exact (a4.vu (sv.i8 hj e).1 c4).kp kp
    · rw [gR_stR, if_pos ⟨rfl, rfl⟩]
    · rw [el] at n2 ⊢
      rw [gR_stR, if_neg (by omega), gR_stI, gR_stR]
      by_cases q : n = 1
      · rw [if_pos ⟨rfl, by omega⟩]
        have sw := (sl.2 0 (Nat.zero_le _)).2.2
        have y3 : RW M r u (oS j + 2110 * n) := (a6 : RW M r v (oS j + 2110 * 0)).cg sw.1 (Nat.le_trans sw.2.1 sw.1) (fun x hx => by
          have := c5 n x (by omega) (by omega) hx
          rw [q] at this ⊢
          exact this)
        exact ⟨r, rfl, y3.kp kp⟩
      · rw [if_neg (by omega), rp n (by omega) n2]
        obtain ⟨y, y1, y2⟩ := a7 (n - 1) (by omega) (by omega)
        have sw := (sl.2 (n - 1) (by omega)).2.2
        have y3 : RW M y u (oS j + 2110 * n) := y2.cg sw.1 (Nat.le_trans sw.2.1 sw.1) (fun x hx => c5 n x (by omega) (by omega) hx)
        exact ⟨y, y1, y3.kp kp⟩
theorem K_act {v u : Nat → Nat} (sv : SV v) {M : q_M} (h : SH M) (hs : HS M 2 v) {j : Nat} (hj : j < 4) (e : v (oS j) = 1) {rn : Nat} (rw_ : RW M rn u (oS j)) (ac : acT v u j) : ∃ M1, q_CL 46 [.inr (.inr (some (15 + 2 * j))), .inr (.inr (some rn))] M = some (none, M1) ∧ FC (sh2 j) M M1 ∧ HS M1 2 u := by
  have l6 := (sv.2 j hj).2.1
  have i0 := h_is h hj
  obtain ⟨t1, t2, t3, t4, t5⟩ := h_t h hj
  have el := ac.2.2.1
  have ho := hs j hj
  rcases ho with ⟨a1, _⟩ | ⟨a1, a2, c, r, a3, a4, a5, a6, a7⟩
  · omega
  rw [show 2 + 13 + 2 * j = 15 + 2 * j by omega] at a2 a3 a5
  rw [show 2 + 14 + 2 * j = 16 + 2 * j by omega] at a7
  rw [C_X5_act]
  simp only [z_fI i0, a2, Option.bind_some]
  by_cases c6 : v (60180 + j) = 6
  · rw [c6, if_pos rfl]
    rw [c6, if_pos (by omega)] at el
    have key : ∀ n i, i + n = 6 → 1 ≤ i → ∀ A, FC (sh2 j) M A → (∀ a k, gI A a k = gI M a k) → (∀ k, gR A (15 + 2 * j) k = gR M (15 + 2 * j) k) → (∀ x, x < 6 → gR A (16 + 2 * j) x = if x + 1 < i then gR M (16 + 2 * j) (x + 1) else gR M (16 + 2 * j) x) → ∃ M1, q_RL T_X5_act (11, [some (.inr (.inr (some (15 + 2 * j)))), some (.inr (.inr (some rn))), some (.inl (nI i))], [], A) = some (none, M1) ∧ FC (sh2 j) M M1 ∧ HS M1 2 u := by
      intro n
      induction n with
      | zero =>
        intro i hi h1 A f x1 x2 x3
        have hA := f.sh h
        have iA := h_is hA hj
        obtain ⟨M1, u1, u2, u3⟩ := K_act47 sv h hs hj e rw_ ac (l := 5) (by omega) el (A := stI A (15 + 2 * j) 3 (nI 5)) (f.sI (Or.inl rfl)) gI_self x2 (fun n n1 n2 => by
          rw [gR_stI, x3 _ (by omega), if_pos (by omega), c6, show 5 + 1 - n + 1 = 6 - (n - 1) by omega]) (by omega)
        refine ⟨M1, ?_, u2, u3⟩
        rw [E_X5_act_11, if_pos (nI_le (by omega) (by omega))]
        rw [E_X5_act_47] at u1
        simp only [z_fI iA, x1, a2, Option.bind_some, c6, pk_sub (show 1 ≤ 6 by omega), z_sI iA]
        exact u1
      | succ n ih =>
        intro i hi h1 A f x1 x2 x3
        have hA := f.sh h
        have iA := h_is hA hj
        obtain ⟨s1, s2, s3, s4, s5⟩ := h_t hA hj
        obtain ⟨y, y1, y2⟩ := a7 (6 - i) (by omega) (by omega)
        rw [c6, show 6 - (6 - i) = i by omega] at y1
        have ty : A.1 y = 3 := by
          obtain ⟨ps, sz, x, _⟩ := y2
          rw [f.1]; exact x.1
        have may : q_may A (A.1 (16 + 2 * j)) (some y) = true := by rw [s2]; show Nat.beq (A.1 y) 3 = true; rw [ty]; rfl
        have gy : gR A (16 + 2 * j) i = some y := by rw [x3 i (by omega), if_neg (by omega)]; exact y1
        obtain ⟨M1, u1, u2, u3⟩ := ih (i + 1) (by omega) (by omega) (stR A (16 + 2 * j) (i - 1) (some y)) (f.sR (Or.inr rfl) (h_isc2 hj)) x1 (fun k => by rw [gR_stR, if_neg (by omega)]; exact x2 k) (fun x hx => by
          rw [gR_stR]
          by_cases q : x = i - 1
          · rw [if_pos ⟨rfl, q⟩, if_pos (by omega), q, show i - 1 + 1 = i by omega]; exact y1.symm
          · rw [if_neg (fun z => q z.2), x3 x hx]
            by_cases q2 : x + 1 < i
            · rw [if_pos q2, if_pos (by omega)]
            · rw [if_neg q2, if_neg (by omega)])
        refine ⟨M1, ?_, u2, u3⟩
        rw [E_X5_act_11, if_neg (nI_ge (by omega) (by omega))]
        simp only [z_fR iA, s5, Option.bind_some, z_aR (show 17 ≤ A.1 (16 + 2 * j) ∧ A.1 (16 + 2 * j) ≤ 22 by omega) s3 (show i < 6 by omega) (by decide), gy, pk_sub h1, z_bR (v := some y) ⟨show 17 ≤ A.1 (16 + 2 * j) by omega, show A.1 (16 + 2 * j) ≤ 21 by omega, may⟩ s3 (show i - 1 < 6 by omega) (by decide), nI_1]
        exact u1
    exact key 5 1 (by omega) (by omega) M (FC.rf _ M) (fun _ _ => rfl) (fun _ => rfl) (fun x hx => by rw [if_neg (by omega)])
  · rw [if_neg (fun z => c6 ((nI_eq (by omega) (by omega)).mp z))]
    rw [if_neg (by omega)] at el
    obtain ⟨M1, u1, u2, u3⟩ := K_act47 sv h hs hj e rw_ ac (l := v (60180 + j)) (by omega) el (FC.rf _ M) a2 (fun _ => rfl) (fun n n1 n2 => by rw [show v (60180 + j) + 1 - n = v (60180 + j) - (n - 1) by omega]) (Nat.le_refl _)
    refine ⟨M1, ?_, u2, u3⟩
    rw [E_X5_act_47] at u1
    simp only [z_fI i0, a2, Option.bind_some] at u1 ⊢
    exact u1
