/-! ===== THE CLASS: down, up, and from a number on ===== -/
theorem nd_up {B n N D i k : Nat} (hk : k ≤ i) (hi : i ≤ D) (e : n / B ^ (D - i) = N / B ^ (D - i)) : n / B ^ (D - k) = N / B ^ (D - k) := by
  rw [show D - k = (D - i) + (i - k) by omega, Nat.pow_add, ← Nat.div_div_eq_div_mul, ← Nat.div_div_eq_div_mul, e]
theorem nd_kid {B n D i p v : Nat} (hB : 2 ≤ B) (hi : i < D) (hv : v < B) (e : n / B ^ (D - (i + 1)) = p * B + v) : n / B ^ (D - i) = p := by
  rw [show D - i = (D - (i + 1)) + 1 by omega, Nat.pow_succ, ← Nat.div_div_eq_div_mul, e, Nat.mul_comm, Nat.mul_add_div (by omega), Nat.div_eq_of_lt hv, Nat.add_zero]
theorem kid_lt2 {B p v k : Nat} (hp : p < B ^ k) (hv : v < B) : p * B + v < B ^ (k + 1) := by
  rw [Nat.pow_succ]
  have := Nat.mul_le_mul_right B (show p + 1 ≤ B ^ k from hp)
  rw [Nat.succ_mul] at this
  omega
theorem K_de13 {c K d : Nat} {L : Nat → Nat} {i : Nat} (ok : okC K d L) {o : Nat} (ho : o = 0 ∨ o = 1) {wl wh : Nat → Nat} (hw : ∀ a, a < 3 → wl a ≤ wh a ∧ wh a < 2 ^ 20) {x1 : Int32} {k0 N : Nat} (hN : N < cB K ^ lsm L) (hP : Pr (cmO K d L) (lsm L) o wl wh N) (hmin : ∀ n, n < N → n / cB K ^ (lsm L - k0) = N / cB K ^ (lsm L - k0) → ¬ Pr (cmO K d L) (lsm L) o wl wh n) {j : Nat} (hk0 : k0 ≤ j) (hj : j < lsm L) : ∀ m v, v + m = N / cB K ^ (lsm L - 1 - j) % cB K → ∀ {M : q_M}, WK M c K d L i → WV M wl wh → PT M (cmO K d L) (lsm L) N j → ∃ M1, q_RL T_X10_descend (13, [some (.inr (.inr (some 25))), some (.inl x1), some (.inl (nI o)), some (.inl (nI j)), some (.inl (nI v))], [], M) = q_RL T_X10_descend (2, [some (.inr (.inr (some 25))), some (.inl x1), some (.inl (nI o)), some (.inl (nI (j + 1))), some (.inl (nI (N / cB K ^ (lsm L - 1 - j) % cB K)))], [], M1) ∧ WF M M1 ∧ PT M1 (cmO K d L) (lsm L) N (j + 1) := by
  have B2 := cB_2 K
  have h60 := okC_60 ok
  have g := gd_co ok
  have eB := cmO_B K d L
  have dl : N / cB K ^ (lsm L - 1 - j) % cB K < cB K := Nat.mod_lt _ (by omega)
  have pl : N / cB K ^ (lsm L - j) < cB K ^ j := nd_lt (by omega) hN (by omega)
  intro m
  induction m with
  | zero =>
    intro v hv M w wv pt
    rw [Nat.add_zero] at hv
    have wdj := pt.1 j (Nat.le_refl j)
    rw [eB] at wdj
    obtain ⟨M1, s1, s2, s3, s4⟩ := K_step w ok wdj hj pl (x := v) (by omega)
    have w1 := w.kp s2
    have e1 : N / cB K ^ (lsm L - j) * cB K + v = N / cB K ^ (lsm L - (j + 1)) := by rw [nd_s (by omega) hj, hv]
    rw [e1] at s3
    have pl1 : N / cB K ^ (lsm L - (j + 1)) < cB K ^ (j + 1) := nd_lt (by omega) hN (by omega)
    obtain ⟨R, r1, r2⟩ := K_meets w1 ok s3 (by omega) pl1 ho (wv.ws s2) hw
    have pl1' : N / cB K ^ (lsm L - (j + 1)) < (cmO K d L).1 ^ (j + 1) := by rw [eB]; exact pl1
    have rt : R = true := r2.mpr ((ask_c g (by omega) pl1' ho (fun a ha => (hw a ha).1)).mpr ⟨N, by rw [eB]; exact hN, by rw [eB], hP⟩)
    refine ⟨M1, ?_, WF.ws s2, ⟨fun x hx => ?_, fun x hx => ?_⟩⟩
    · rw [E_X10_descend_13]
      simp only [w.c7, Option.bind_some, w.2.1.bs]
      rw [if_neg (nI_ge (by omega) (by omega))]
      simp only [w_sel w.1, Option.bind_some, s1, z_rV, w_sel w1.1, nI_add, r1, z_rI, rt]
      rw [if_neg (show ¬ nI (bN true) = 0 by decide +kernel), nI_1, hv]
    · by_cases q : x = j + 1
      · rw [q, eB]; exact s3
      · exact (pt.1 x (by omega)).ws s2 (by omega)
    · by_cases q : x = j
      · rw [q, s4, eB, hv]
      · exact (s2.2.2.2.2.2.1 x (by omega)).trans (pt.2 x (by omega))
  | succ m ih =>
    intro v hv M w wv pt
    have wdj := pt.1 j (Nat.le_refl j)
    rw [eB] at wdj
    obtain ⟨M1, s1, s2, s3, s4⟩ := K_step w ok wdj hj pl (x := v) (by omega)
    have w1 := w.kp s2
    have pl1 : N / cB K ^ (lsm L - j) * cB K + v < cB K ^ (j + 1) := kid_lt2 pl (by omega)
    obtain ⟨R, r1, r2⟩ := K_meets w1 ok s3 (by omega) pl1 ho (wv.ws s2) hw
    have pl1' : N / cB K ^ (lsm L - j) * cB K + v < (cmO K d L).1 ^ (j + 1) := by rw [eB]; exact pl1
    have rf : R = false := by
      cases R with
      | false => rfl
      | true =>
        exfalso
        obtain ⟨n, n1, n2, n3⟩ := (ask_c g (by omega) pl1' ho (fun a ha => (hw a ha).1)).mp (r2.mp rfl)
        rw [eB] at n1 n2
        have lt : n < N := by
          have e1 : N / cB K ^ (lsm L - (j + 1)) = N / cB K ^ (lsm L - j) * cB K + N / cB K ^ (lsm L - 1 - j) % cB K := nd_s (by omega) hj
          rcases Nat.lt_or_ge n N with q | q
          · exact q
          · have := Nat.div_le_div_right (c := cB K ^ (lsm L - (j + 1))) q
            omega
        exact hmin n lt (nd_up hk0 (by omega) (nd_kid (by omega) hj (by omega) n2)) n3
    obtain ⟨M2, t1, t2, t3⟩ := ih (v + 1) (by omega) w1 (wv.ws s2) (pt.ws s2 (Nat.le_refl j))
    refine ⟨M2, ?_, (WF.ws s2).tr t2, t3⟩
    rw [← t1, E_X10_descend_13]
    simp only [w.c7, Option.bind_some, w.2.1.bs]
    rw [if_neg (nI_ge (by omega) (by omega))]
    simp only [w_sel w.1, Option.bind_some, s1, z_rV, w_sel w1.1, nI_add, r1, z_rI, rf]
    rw [if_pos (show nI (bN false) = 0 by decide +kernel), nI_1]
theorem K_desc {c K d : Nat} {L : Nat → Nat} {i : Nat} (ok : okC K d L) {o : Nat} (ho : o = 0 ∨ o = 1) {wl wh : Nat → Nat} (hw : ∀ a, a < 3 → wl a ≤ wh a ∧ wh a < 2 ^ 20) {k0 N : Nat} (hN : N < cB K ^ lsm L) (hP : Pr (cmO K d L) (lsm L) o wl wh N) (hmin : ∀ n, n < N → n / cB K ^ (lsm L - k0) = N / cB K ^ (lsm L - k0) → ¬ Pr (cmO K d L) (lsm L) o wl wh n) (hk0 : k0 ≤ lsm L) {M : q_M} (w : WK M c K d L i) (wv : WV M wl wh) (pt : PT M (cmO K d L) (lsm L) N k0) : ∃ M1, q_CL 77 [.inr (.inr (some 25)), .inl (nI k0), .inl (nI o)] M = some (some (.inr (.inl (lN N))), M1) ∧ WF M M1 ∧ PT M1 (cmO K d L) (lsm L) N (lsm L) := by
  have h60 := okC_60 ok
  rw [C_X10_descend]
  have key : ∀ m j, j + m = lsm L → k0 ≤ j → ∀ {M : q_M}, WK M c K d L i → WV M wl wh → PT M (cmO K d L) (lsm L) N j → ∀ d4, ∃ M1, q_RL T_X10_descend (2, [some (.inr (.inr (some 25))), some (.inl (nI k0)), some (.inl (nI o)), some (.inl (nI j)), d4], [], M) = some (some (.inr (.inl (lN N))), M1) ∧ WF M M1 ∧ PT M1 (cmO K d L) (lsm L) N (lsm L) := by
    intro m
    induction m with
    | zero =>
      intro j hj hk M w wv pt d4
      rw [Nat.add_zero] at hj
      rw [hj] at pt ⊢
      have e := (pt.1 (lsm L) (Nat.le_refl _)).2.2
      rw [Nat.sub_self, Nat.pow_zero, Nat.div_one] at e
      refine ⟨M, ?_, WF.rf M, pt⟩
      rw [E_X10_descend_2]
      simp only [w.d8, Option.bind_some]
      rw [if_pos (nI_le (Nat.le_refl _) (by omega))]
      simp only [w_f w.1 (show (25, 3, 35) ∈ q_crs by decide), Option.bind_some, w_aL w.1 (show lsm L < 61 by omega), e]
    | succ m ih =>
      intro j hj hk M w wv pt d4
      obtain ⟨M1, s1, s2, s3⟩ := K_de13 (c := c) (i := i) ok ho hw (x1 := nI k0) hN hP hmin hk (show j < lsm L by omega) (N / cB K ^ (lsm L - 1 - j) % cB K) 0 (by omega) w wv pt
      obtain ⟨M2, t1, t2, t3⟩ := ih (j + 1) (by omega) (by omega) (s2.wk w) (s2.wv wv) s3 (some (.inl (nI (N / cB K ^ (lsm L - 1 - j) % cB K))))
      refine ⟨M2, ?_, s2.tr t2, t3⟩
      rw [E_X10_descend_2]
      simp only [w.d8, Option.bind_some]
      rw [if_neg (nI_ge (by omega) (by omega)), s1, t1]
  exact key (lsm L - k0) k0 (by omega) (Nat.le_refl _) w wv pt none
/-- up from depth k, for the least number from f on -/
theorem K_climb {c K d : Nat} {L : Nat → Nat} {i : Nat} (ok : okC K d L) {o : Nat} (ho : o = 0 ∨ o = 1) {wl wh : Nat → Nat} (hw : ∀ a, a < 3 → wl a ≤ wh a ∧ wh a < 2 ^ 20) {n0 f : Nat} (hn0 : n0 < cB K ^ lsm L) {k : Nat} (hk : k ≤ lsm L) (hf : ∀ j, j ≤ k → f ≤ (n0 / cB K ^ (lsm L - j) + 1) * cB K ^ (lsm L - j)) (hH : ∀ n, f ≤ n → n < (n0 / cB K ^ (lsm L - k) + 1) * cB K ^ (lsm L - k) → ¬ Pr (cmO K d L) (lsm L) o wl wh n) {M : q_M} (w : WK M c K d L i) (wv : WV M wl wh) (pt : (∀ j, j < k → WD M (cmO K d L) j (n0 / cB K ^ (lsm L - j))) ∧ ∀ j, j < k → gI M 36 j = nI (n0 / cB K ^ (lsm L - 1 - j) % cB K)) : ∃ q M1, q_CL 76 [.inr (.inr (some 25)), .inl (nI k), .inl (nI o)] M = some (some (.inr (.inl (rL q))), M1) ∧ Nx (Pr (cmO K d L) (lsm L) o wl wh) (cB K ^ lsm L) f q ∧ WF M M1 ∧ ∀ N, q = some N → PT M1 (cmO K d L) (lsm L) N (lsm L) := by
  have B2 := cB_2 K
  have h60 := okC_60 ok
  have g := gd_co ok
  have eB := cmO_B K d L
  have pB : ∀ j, 0 < cB K ^ j := fun j => Nat.pow_pos (by omega)
  -- the children of depth j from v on
  have k18 : ∀ j, j < k → (∀ j, j ≤ k → f ≤ (n0 / cB K ^ (lsm L - j) + 1) * cB K ^ (lsm L - j)) → ∀ m v, v + m = cB K → n0 / cB K ^ (lsm L - 1 - j) % cB K < v → (∀ n, f ≤ n → n < (n0 / cB K ^ (lsm L - j) * cB K + v) * cB K ^ (lsm L - (j + 1)) → ¬ Pr (cmO K d L) (lsm L) o wl wh n) → ∀ {M : q_M}, WK M c K d L i → WV M wl wh → ((∀ x, x ≤ j → WD M (cmO K d L) x (n0 / cB K ^ (lsm L - x))) ∧ ∀ x, x < j → gI M 36 x = nI (n0 / cB K ^ (lsm L - 1 - x) % cB K)) → (∃ N M1, q_RL T_X10_climb (18, [some (.inr (.inr (some 25))), some (.inl (nI k)), some (.inl (nI o)), some (.inl (nI j)), some (.inl (nI v))], [], M) = some (some (.inr (.inl (lN N))), M1) ∧ Nx (Pr (cmO K d L) (lsm L) o wl wh) (cB K ^ lsm L) f (some N) ∧ WF M M1 ∧ PT M1 (cmO K d L) (lsm L) N (lsm L)) ∨ (∃ M1, q_RL T_X10_climb (18, [some (.inr (.inr (some 25))), some (.inl (nI k)), some (.inl (nI o)), some (.inl (nI j)), some (.inl (nI v))], [], M) = q_RL T_X10_climb (4, [some (.inr (.inr (some 25))), some (.inl (nI k)), some (.inl (nI o)), some (.inl (nI j + (-1))), some (.inl (nI (cB K)))], [], M1) ∧ WF M M1 ∧ ((∀ x, x ≤ j → WD M1 (cmO K d L) x (n0 / cB K ^ (lsm L - x))) ∧ ∀ x, x < j → gI M1 36 x = nI (n0 / cB K ^ (lsm L - 1 - x) % cB K)) ∧ ∀ n, f ≤ n → n < (n0 / cB K ^ (lsm L - j) + 1) * cB K ^ (lsm L - j) → ¬ Pr (cmO K d L) (lsm L) o wl wh n) := by
    intro j hj hf m
    have pl : n0 / cB K ^ (lsm L - j) < cB K ^ j := nd_lt (by omega) hn0 (by omega)
    have eD : cB K ^ (lsm L - j) = cB K * cB K ^ (lsm L - (j + 1)) := by rw [show lsm L - j = (lsm L - (j + 1)) + 1 by omega, Nat.pow_succ, Nat.mul_comm]
    induction m with
    | zero =>
      intro v hv hdv hH M w wv pt
      right
      rw [Nat.add_zero] at hv
      refine ⟨M, ?_, WF.rf M, pt, fun n h1 h2 => hH n h1 ?_⟩
      · rw [E_X10_climb_18]
        simp only [w.c7, Option.bind_some, w.2.1.bs]
        rw [if_pos (nI_le (by omega) (by omega)), hv]
      · rw [hv, ← Nat.succ_mul, Nat.mul_assoc, ← eD]; exact h2
    | succ m ih =>
      intro v hv hdv hH M w wv pt
      have wdj := pt.1 j (Nat.le_refl j)
      obtain ⟨M1, s1, s2, s3, s4⟩ := K_step w ok wdj (by omega) pl (x := v) (by omega)
      have w1 := w.kp s2
      have pl1 : n0 / cB K ^ (lsm L - j) * cB K + v < cB K ^ (j + 1) := kid_lt2 pl (by omega)
      have pl1' : n0 / cB K ^ (lsm L - j) * cB K + v < (cmO K d L).1 ^ (j + 1) := by rw [eB]; exact pl1
      obtain ⟨R, r1, r2⟩ := K_meets w1 ok s3 (by omega) pl1 ho (wv.ws s2) hw
      have ask := ask_c g (show j + 1 ≤ lsm L by omega) pl1' ho (fun a ha => (hw a ha).1)
      rw [eB] at ask
      have pt1 : (∀ x, x ≤ j → WD M1 (cmO K d L) x (n0 / cB K ^ (lsm L - x))) ∧ ∀ x, x < j → gI M1 36 x = nI (n0 / cB K ^ (lsm L - 1 - x) % cB K) := ⟨fun x hx => (pt.1 x hx).ws s2 (by omega), fun x hx => (s2.2.2.2.2.2.1 x (by omega)).trans (pt.2 x hx)⟩
      cases hR : R with
      | true =>
        left
        obtain ⟨N, hNP, hNm⟩ := pk_least (fun n => n < cB K ^ lsm L ∧ n / cB K ^ (lsm L - (j + 1)) = n0 / cB K ^ (lsm L - j) * cB K + v ∧ Pr (cmO K d L) (lsm L) o wl wh n) (ask.mp (r2.mp hR))
        obtain ⟨N1, N2, N3⟩ := hNP
        have Nj := nd_kid (by omega) (show j < lsm L by omega) (show v < cB K by omega) N2
        have Nd : N / cB K ^ (lsm L - 1 - j) % cB K = v := by
          rw [show lsm L - 1 - j = lsm L - (j + 1) by omega, N2, Nat.mul_comm, Nat.mul_add_mod, Nat.mod_eq_of_lt (by omega)]
        have ptN : PT M1 (cmO K d L) (lsm L) N (j + 1) := by
          refine ⟨fun x hx => ?_, fun x hx => ?_⟩
          · rw [eB]
            by_cases q : x = j + 1
            · rw [q, N2]; exact s3
            · rw [nd_up (show x ≤ j by omega) (by omega) Nj]; exact pt1.1 x (by omega)
          · rw [eB]
            by_cases q : x = j
            · rw [q, s4, Nd]
            · have e : N / cB K ^ (lsm L - 1 - x) = n0 / cB K ^ (lsm L - 1 - x) := by
                have := nd_up (B := cB K) (n := N) (N := n0) (D := lsm L) (i := j) (k := x + 1) (by omega) (by omega) Nj
                rw [show lsm L - (x + 1) = lsm L - 1 - x by omega] at this
                exact this
              rw [pt1.2 x (by omega), e]
        obtain ⟨M2, t1, t2, t3⟩ := K_desc (c := c) (i := i) ok ho hw N1 N3 (k0 := j + 1) (fun n hn e => fun z => hNm n hn ⟨by omega, by rw [e, N2], z⟩) (by omega) w1 (wv.ws s2) ptN
        have lowN : (n0 / cB K ^ (lsm L - j) * cB K + v) * cB K ^ (lsm L - (j + 1)) ≤ N := by rw [← N2]; exact Nat.div_mul_le_self _ _
        have fN : f ≤ N := by
          have h1 := hf (j + 1) (by omega)
          have h2 : n0 / cB K ^ (lsm L - (j + 1)) + 1 ≤ n0 / cB K ^ (lsm L - j) * cB K + v := by rw [nd_s (by omega) (show j < lsm L by omega)]; omega
          exact Nat.le_trans h1 (Nat.le_trans (Nat.mul_le_mul_right _ h2) lowN)
        refine ⟨N, M2, ?_, ⟨fN, N1, N3, fun n h1 h2 => ?_⟩, (WF.ws s2).tr t2, t3⟩
        · rw [E_X10_climb_18]
          simp only [w.c7, Option.bind_some, w.2.1.bs]
          rw [if_neg (nI_ge (by omega) (by omega))]
          simp only [w_sel w.1, Option.bind_some, s1, z_rV, w_sel w1.1, nI_add, r1, z_rI, hR]
          rw [if_neg (show ¬ nI (bN true) = 0 by decide +kernel)]
          simp only [t1, z_rL, Option.bind_some]
        · rcases Nat.lt_or_ge n ((n0 / cB K ^ (lsm L - j) * cB K + v) * cB K ^ (lsm L - (j + 1))) with q | q
          · exact hH n h1 q
          · intro z
            refine hNm n h2 ⟨by omega, ?_, z⟩
            have a1 : n0 / cB K ^ (lsm L - j) * cB K + v ≤ n / cB K ^ (lsm L - (j + 1)) := (Nat.le_div_iff_mul_le (pB _)).mpr q
            have a2 := Nat.div_le_div_right (c := cB K ^ (lsm L - (j + 1))) (Nat.le_of_lt h2)
            omega
      | false =>
        have hH' : ∀ n, f ≤ n → n < (n0 / cB K ^ (lsm L - j) * cB K + (v + 1)) * cB K ^ (lsm L - (j + 1)) → ¬ Pr (cmO K d L) (lsm L) o wl wh n := fun n h1 h2 => by
          rcases Nat.lt_or_ge n ((n0 / cB K ^ (lsm L - j) * cB K + v) * cB K ^ (lsm L - (j + 1))) with q | q
          · exact hH n h1 q
          · intro z
            have a1 : n0 / cB K ^ (lsm L - j) * cB K + v ≤ n / cB K ^ (lsm L - (j + 1)) := (Nat.le_div_iff_mul_le (pB _)).mpr q
            have a2 : n / cB K ^ (lsm L - (j + 1)) < n0 / cB K ^ (lsm L - j) * cB K + (v + 1) := (Nat.div_lt_iff_lt_mul (pB _)).mpr h2
            have a3 : n < cB K ^ lsm L := by
              have : (n0 / cB K ^ (lsm L - j) * cB K + (v + 1)) * cB K ^ (lsm L - (j + 1)) ≤ cB K ^ (j + 1) * cB K ^ (lsm L - (j + 1)) := Nat.mul_le_mul_right _ (by omega)
              rw [← Nat.pow_add, show j + 1 + (lsm L - (j + 1)) = lsm L by omega] at this
              omega
            have := r2.mpr (ask.mpr ⟨n, a3, by omega, z⟩)
            rw [hR] at this
            cases this
        have step : q_RL T_X10_climb (18, [some (.inr (.inr (some 25))), some (.inl (nI k)), some (.inl (nI o)), some (.inl (nI j)), some (.inl (nI v))], [], M) = q_RL T_X10_climb (18, [some (.inr (.inr (some 25))), some (.inl (nI k)), some (.inl (nI o)), some (.inl (nI j)), some (.inl (nI (v + 1)))], [], M1) := by
          rw [E_X10_climb_18]
          simp only [w.c7, Option.bind_some, w.2.1.bs]
          rw [if_neg (nI_ge (by omega) (by omega))]
          simp only [w_sel w.1, Option.bind_some, s1, z_rV, w_sel w1.1, nI_add, r1, z_rI, hR]
          rw [if_pos (show nI (bN false) = 0 by decide +kernel), nI_1]
        rcases ih (v + 1) (by omega) (by omega) hH' w1 (wv.ws s2) pt1 with ⟨N, M2, u1, u2, u3, u4⟩ | ⟨M2, u1, u2, u3, u4⟩
        · exact Or.inl ⟨N, M2, step.trans u1, u2, (WF.ws s2).tr u3, u4⟩
        · exact Or.inr ⟨M2, step.trans u1, (WF.ws s2).tr u2, u3, u4⟩
  have k4 : ∀ m, m ≤ k → (∀ n, f ≤ n → n < (n0 / cB K ^ (lsm L - m) + 1) * cB K ^ (lsm L - m) → ¬ Pr (cmO K d L) (lsm L) o wl wh n) → ∀ {M : q_M}, WK M c K d L i → WV M wl wh → ((∀ x, x < m → WD M (cmO K d L) x (n0 / cB K ^ (lsm L - x))) ∧ ∀ x, x < m → gI M 36 x = nI (n0 / cB K ^ (lsm L - 1 - x) % cB K)) → ∀ d4, ∃ q M1, q_RL T_X10_climb (4, [some (.inr (.inr (some 25))), some (.inl (nI k)), some (.inl (nI o)), some (.inl (nI m + (-1))), d4], [], M) = some (some (.inr (.inl (rL q))), M1) ∧ Nx (Pr (cmO K d L) (lsm L) o wl wh) (cB K ^ lsm L) f q ∧ WF M M1 ∧ ∀ N, q = some N → PT M1 (cmO K d L) (lsm L) N (lsm L) := by
    intro m
    induction m with
    | zero =>
      intro hm hH M w wv pt d4
      refine ⟨none, M, ?_, fun n h1 h2 => hH n h1 ?_, WF.rf M, fun N e => by cases e⟩
      · rw [E_X10_climb_4, if_pos (by decide +kernel)]
        rfl
      · rw [Nat.sub_zero, Nat.div_eq_of_lt hn0, Nat.zero_add, Nat.one_mul]; exact h2
    | succ m ih =>
      intro hm hH M w wv pt d4
      have dl : n0 / cB K ^ (lsm L - 1 - m) % cB K < cB K := Nat.mod_lt _ (by omega)
      have e1 : n0 / cB K ^ (lsm L - (m + 1)) + 1 = n0 / cB K ^ (lsm L - m) * cB K + (n0 / cB K ^ (lsm L - 1 - m) % cB K + 1) := by rw [nd_s (by omega) (show m < lsm L by omega)]; omega
      rw [e1] at hH
      have st : q_RL T_X10_climb (4, [some (.inr (.inr (some 25))), some (.inl (nI k)), some (.inl (nI o)), some (.inl (nI (m + 1) + (-1))), d4], [], M) = q_RL T_X10_climb (18, [some (.inr (.inr (some 25))), some (.inl (nI k)), some (.inl (nI o)), some (.inl (nI m)), some (.inl (nI (n0 / cB K ^ (lsm L - 1 - m) % cB K + 1)))], [], M) := by
        rw [E_X10_climb_4, pk_m1, if_neg (nI_pos (by omega))]
        simp only [w_f w.1 (show (25, 4, 36) ∈ q_crs by decide), Option.bind_some, w_a w.1 (show w61 36 by unfold w61; omega) (show m < 61 by omega), pt.2 m (by omega), nI_add]
      rcases k18 m (by omega) hf (cB K - (n0 / cB K ^ (lsm L - 1 - m) % cB K + 1)) (n0 / cB K ^ (lsm L - 1 - m) % cB K + 1) (by omega) (by omega) hH w wv ⟨fun x hx => pt.1 x (by omega), fun x hx => pt.2 x (by omega)⟩ with ⟨N, M1, u1, u2, u3, u4⟩ | ⟨M1, u1, u2, u3, u4⟩
      · exact ⟨some N, M1, st.trans u1, u2, u3, fun N' e => by cases e; exact u4⟩
      · obtain ⟨q, M2, t1, t2, t3, t4⟩ := ih (by omega) u4 (u2.wk w) (u2.wv wv) ⟨fun x hx => u3.1 x (by omega), fun x hx => u3.2 x hx⟩ (some (.inl (nI (cB K))))
        exact ⟨q, M2, st.trans (u1.trans t1), t2, u2.tr t3, t4⟩
  rw [C_X10_climb]
  have e : nI k - nI 1 = nI k + (-1) := by
    rw [Int32.sub_eq_add_neg]
    congr 1
  rw [e]
  exact k4 k (Nat.le_refl k) hH w wv ⟨fun x hx => pt.1 x hx, fun x hx => pt.2 x hx⟩ none
