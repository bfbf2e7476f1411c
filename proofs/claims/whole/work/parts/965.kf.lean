/-! ===== THE CLASS: seek, onward, leaf, numberOf ===== -/
theorem le_nd (n x : Nat) (hx : 0 < x) : n < (n / x + 1) * x := by
  have := Nat.div_add_mod n x
  have := Nat.mod_lt n hx
  rw [Nat.add_mul, Nat.one_mul, Nat.mul_comm (n / x) x]
  omega
theorem K_seek40 {c K d : Nat} {L : Nat → Nat} {i : Nat} (ok : okC K d L) {o f : Nat} (hf : f < 2 ^ 62) {l1 : Int64} {d2 : Option q_V} : ∀ j, j ≤ lsm L → ∀ {M : q_M} d5, WK M c K d L i → (∀ k, j ≤ k → k < lsm L → gI M 36 k = nI (f / cB K ^ (lsm L - 1 - k) % cB K)) → ∃ M1 l4 d5', q_RL T_X10_seek (40, [some (.inr (.inr (some 25))), some (.inr (.inl l1)), d2, some (.inl (nI o)), some (.inr (.inl (lN (f / cB K ^ (lsm L - j))))), d5, some (.inl (nI j + (-1)))], [], M) = q_RL T_X10_seek (86, [some (.inr (.inr (some 25))), some (.inr (.inl l1)), d2, some (.inl (nI o)), some (.inr (.inl l4)), d5', some (.inl (nI 0))], [], M1) ∧ FC (fun a => a = 36) M M1 ∧ (∀ k, k < lsm L → gI M1 36 k = nI (f / cB K ^ (lsm L - 1 - k) % cB K)) := by
  have B2 := cB_2 K
  have h60 := okC_60 ok
  intro j
  induction j with
  | zero =>
    intro _ M d5 w e
    refine ⟨M, lN (f / cB K ^ (lsm L - 0)), q_kill d5, ?_, FC.rf _ M, fun k hk => e k (by omega) hk⟩
    rw [E_X10_seek_40, if_pos (by decide +kernel)]
  | succ j ih =>
    intro hj M d5 w e
    have hd : f / cB K ^ (lsm L - (j + 1)) < 2 ^ 63 := Nat.lt_of_le_of_lt (Nat.div_le_self _ _) (by omega)
    have bz : ¬ lN (cB K) = 0 := fun q => by
      have := (pk_lEQ (a := cB K) (b := 0) (by omega) (by omega)).mp q
      omega
    have fA : FC (fun a => a = 36) M (stI M 36 j (nI (f / cB K ^ (lsm L - (j + 1)) % cB K))) := (FC.rf (fun a => a = 36) M).sI rfl
    have hA := fA.sh w.1
    have wA : WK (stI M 36 j (nI (f / cB K ^ (lsm L - (j + 1)) % cB K))) c K d L i := ⟨hA, w.2.1.fc fA (fun a z => by omega), w.2.2.1, (gI_oth (by omega)).trans w.2.2.2⟩
    obtain ⟨M1, l4, d5', p1, p2, p3⟩ := ih (by omega) none wA (fun k h1 h2 => by
      by_cases q : k = j
      · rw [q, gI_self, show lsm L - (j + 1) = lsm L - 1 - j by omega]
      · rw [gI_oth (by omega)]; exact e k (by omega) h2)
    refine ⟨M1, l4, d5', ?_, fA.tr p2, p3⟩
    rw [← p1, E_X10_seek_40, pk_m1, if_neg (nI_pos (by omega))]
    simp only [w_f w.1 (show (25, 4, 36) ∈ q_crs by decide), w.c7, Option.bind_some, w.2.1.bs, nI_l (show cB K < 2 ^ 31 by omega), if_neg bz, pk_lRem hd (show 0 < cB K by omega) (show cB K < 2 ^ 63 by omega), lN_i, w_b w.1 (show w61 36 by unfold w61; omega) (show j < 61 by omega), wA.c7, wA.2.1.bs]
    rw [pk_lDiv hd (show 0 < cB K by omega) (show cB K < 2 ^ 63 by omega)]
    rw [Nat.div_div_eq_div_mul, ← Nat.pow_succ, show (lsm L - (j + 1)).succ = lsm L - j by omega]
theorem K_seek86 {c K d : Nat} {L : Nat → Nat} {i : Nat} (ok : okC K d L) {o : Nat} (ho : o = 0 ∨ o = 1) {wl wh : Nat → Nat} (hw : ∀ a, a < 3 → wl a ≤ wh a ∧ wh a < 2 ^ 20) {f : Nat} (hf : f < cB K ^ lsm L) {l1 l4 : Int64} {d2 : Option q_V} : ∀ m k, k + m = lsm L → ∀ {M : q_M}, WK M c K d L i → WV M wl wh → (∀ j, j ≤ k → WD M (cmO K d L) j (f / cB K ^ (lsm L - j))) → (∀ j, j < lsm L → gI M 36 j = nI (f / cB K ^ (lsm L - 1 - j) % cB K)) → ∀ d5, ∃ q M1, q_RL T_X10_seek (86, [some (.inr (.inr (some 25))), some (.inr (.inl l1)), d2, some (.inl (nI o)), some (.inr (.inl l4)), d5, some (.inl (nI k))], [], M) = some (some (.inr (.inl (rL q))), M1) ∧ Nx (Pr (cmO K d L) (lsm L) o wl wh) (cB K ^ lsm L) f q ∧ WF M M1 ∧ ∀ N, q = some N → PT M1 (cmO K d L) (lsm L) N (lsm L) := by
  have B2 := cB_2 K
  have h60 := okC_60 ok
  have g := gd_co ok
  have eB := cmO_B K d L
  have pB : ∀ j, 0 < cB K ^ j := fun j => Nat.pow_pos (by omega)
  -- when the box at depth k doesn't meet
  have up : ∀ k, k ≤ lsm L → ∀ {M : q_M}, WK M c K d L i → WV M wl wh → (∀ j, j ≤ k → WD M (cmO K d L) j (f / cB K ^ (lsm L - j))) → (∀ j, j < lsm L → gI M 36 j = nI (f / cB K ^ (lsm L - 1 - j) % cB K)) → ¬ askP o wl wh (bx (cmO K d L) k (f / cB K ^ (lsm L - k))) → ∃ q M1, q_CL 76 [.inr (.inr (some 25)), .inl (nI k), .inl (nI o)] M = some (some (.inr (.inl (rL q))), M1) ∧ Nx (Pr (cmO K d L) (lsm L) o wl wh) (cB K ^ lsm L) f q ∧ WF M M1 ∧ ∀ N, q = some N → PT M1 (cmO K d L) (lsm L) N (lsm L) := fun k hk {M} w wv wd dg na => by
    have pl : f / cB K ^ (lsm L - k) < cB K ^ k := nd_lt (by omega) hf hk
    have pl' : f / cB K ^ (lsm L - k) < (cmO K d L).1 ^ k := by rw [eB]; exact pl
    refine K_climb (c := c) (i := i) ok ho hw hf hk (fun j hj => Nat.le_of_lt (le_nd f _ (pB _))) (fun n h1 h2 z => na ((ask_c g hk pl' ho (fun a ha => (hw a ha).1)).mpr ⟨n, ?_, ?_, z⟩)) w wv ⟨fun j hj => wd j (by omega), fun j hj => dg j (by omega)⟩
    · rw [eB]
      have : (f / cB K ^ (lsm L - k) + 1) * cB K ^ (lsm L - k) ≤ cB K ^ k * cB K ^ (lsm L - k) := Nat.mul_le_mul_right _ pl
      rw [← Nat.pow_add, show k + (lsm L - k) = lsm L by omega] at this
      omega
    · rw [eB]
      have a1 := Nat.div_le_div_right (c := cB K ^ (lsm L - k)) h1
      have a2 : n / cB K ^ (lsm L - k) < f / cB K ^ (lsm L - k) + 1 := (Nat.div_lt_iff_lt_mul (pB _)).mpr h2
      omega
  intro m
  induction m with
  | zero =>
    intro k hk M w wv wd dg d5
    rw [Nat.add_zero] at hk
    rw [hk] at wd ⊢
    have wdD := wd (lsm L) (Nat.le_refl _)
    have pl : f / cB K ^ (lsm L - lsm L) < cB K ^ lsm L := nd_lt (by omega) hf (Nat.le_refl _)
    have pl' : f / cB K ^ (lsm L - lsm L) < (cmO K d L).1 ^ lsm L := by rw [eB]; exact pl
    obtain ⟨R, r1, r2⟩ := K_meets w ok wdD (Nat.le_refl _) pl ho wv hw
    rw [E_X10_seek_86]
    simp only [w.d8, Option.bind_some]
    rw [if_pos (nI_le (Nat.le_refl _) (by omega))]
    simp only [w_sel w.1, Option.bind_some, r1, z_rI]
    cases hR : R with
    | true =>
      rw [if_neg (show ¬ nI (bN true) = 0 by decide +kernel)]
      obtain ⟨n, n1, n2, n3⟩ := (ask_c g (Nat.le_refl _) pl' ho (fun a ha => (hw a ha).1)).mp (r2.mp hR)
      rw [Nat.sub_self, Nat.pow_zero, Nat.div_one, Nat.pow_zero, Nat.div_one] at n2
      subst n2
      have e := wdD.2.2
      rw [Nat.sub_self, Nat.pow_zero, Nat.div_one] at e
      refine ⟨some n, M, ?_, ⟨Nat.le_refl _, hf, n3, fun m h1 h2 => by omega⟩, WF.rf M, fun N eN => ?_⟩
      · simp only [w_f w.1 (show (25, 3, 35) ∈ q_crs by decide), Option.bind_some, w_aL w.1 (show lsm L < 61 by omega), e]
        rfl
      · cases eN
        exact ⟨fun j hj => by rw [eB]; exact wd j hj, fun j hj => by rw [eB]; exact dg j hj⟩
    | false =>
      rw [if_pos (show nI (bN false) = 0 by decide +kernel)]
      obtain ⟨q, M1, u1, u2, u3, u4⟩ := up (lsm L) (Nat.le_refl _) w wv wd dg (fun z => by have := r2.mpr z; rw [hR] at this; cases this)
      refine ⟨q, M1, ?_, u2, u3, u4⟩
      simp only [u1, z_rL, Option.bind_some]
  | succ m ih =>
    intro k hk M w wv wd dg d5
    have wdk := wd k (Nat.le_refl _)
    have pl : f / cB K ^ (lsm L - k) < cB K ^ k := nd_lt (by omega) hf (by omega)
    obtain ⟨R, r1, r2⟩ := K_meets w ok wdk (by omega) pl ho wv hw
    rw [E_X10_seek_86]
    simp only [w.d8, Option.bind_some]
    rw [if_neg (nI_ge (by omega) (by omega))]
    simp only [w_sel w.1, Option.bind_some, r1, z_rI]
    cases hR : R with
    | false =>
      rw [if_pos (show nI (bN false) = 0 by decide +kernel)]
      rw [if_pos (show nI (bN false) = 0 by decide +kernel)]
      obtain ⟨q, M1, u1, u2, u3, u4⟩ := up k (by omega) w wv wd dg (fun z => by have := r2.mpr z; rw [hR] at this; cases this)
      refine ⟨q, M1, ?_, u2, u3, u4⟩
      simp only [w_sel w.1, u1, z_rL, Option.bind_some]
    | true =>
      rw [if_neg (show ¬ nI (bN true) = 0 by decide +kernel)]
      have dl : f / cB K ^ (lsm L - 1 - k) % cB K < cB K := Nat.mod_lt _ (by omega)
      obtain ⟨M1, s1, s2, s3, s4⟩ := K_step w ok wdk (by omega) pl dl
      have e1 : f / cB K ^ (lsm L - k) * cB K + f / cB K ^ (lsm L - 1 - k) % cB K = f / cB K ^ (lsm L - (k + 1)) := (nd_s (by omega) (by omega)).symm
      rw [e1] at s3
      have w1 := w.kp s2
      obtain ⟨q, M2, u1, u2, u3, u4⟩ := ih (k + 1) (by omega) w1 (wv.ws s2) (fun j hj => by
        by_cases q : j = k + 1
        · rw [q]; exact s3
        · exact (wd j (by omega)).ws s2 (by omega)) (fun j hj => by
        by_cases q : j = k
        · rw [q, s4]
        · exact (s2.2.2.2.2.2.1 j q).trans (dg j hj)) (q_kill d5)
      refine ⟨q, M2, ?_, u2, (WF.ws s2).tr u3, u4⟩
      simp only [w_f w.1 (show (25, 4, 36) ∈ q_crs by decide), Option.bind_some, w_a w.1 (show w61 36 by unfold w61; omega) (show k < 61 by omega), dg k (by omega), w_sel w.1, s1, z_rV, nI_1, u1]
theorem K_seek {c K d : Nat} {L : Nat → Nat} {i : Nat} (ok : okC K d L) {o : Nat} (ho : o = 0 ∨ o = 1) {wl wh : Nat → Nat} (hw : ∀ a, a < 3 → wl a ≤ wh a ∧ wh a < 2 ^ 20) {M : q_M} (w : WK M c K d L i) (wv : WV M wl wh) (w0 : WD M (cmO K d L) 0 0) {f : Nat} (hf : f < cB K ^ lsm L) (hS : cB K ^ lsm L < 2 ^ 62) : ∃ q M1, q_CL 74 [.inr (.inr (some 25)), .inr (.inl (lN f)), .inl (nI o)] M = some (some (.inr (.inl (rL q))), M1) ∧ Nx (Pr (cmO K d L) (lsm L) o wl wh) (cB K ^ lsm L) f q ∧ WF M M1 ∧ ∀ N, q = some N → PT M1 (cmO K d L) (lsm L) N (lsm L) := by
  have B2 := cB_2 K
  have h60 := okC_60 ok
  obtain ⟨M1, l4, d5', p1, p2, p3⟩ := K_seek40 (c := c) (i := i) ok (o := o) (f := f) (by omega) (l1 := lN f) (d2 := none) (lsm L) (Nat.le_refl _) none w (fun k h1 h2 => by omega)
  rw [Nat.sub_self, Nat.pow_zero, Nat.div_one] at p1
  have p2' : FC wsc M M1 := p2.wk fun a z => by unfold wsc; omega
  have w1 : WK M1 c K d L i := ⟨p2'.sh w.1, w.2.1.fc p2' wsc_ok, ((p2.2.2.2.1 25 7 (by omega)).2.2).trans w.2.2.1, ((p2.2.2.2.1 25 8 (by omega)).1).trans w.2.2.2⟩
  have f1 : WF M M1 := ⟨p2', (p2.2.2.2.1 25 7 (by omega)).2.2, (p2.2.2.2.1 25 8 (by omega)).1, fun c hc j => (p2.2.2.2.1 c j (by omega)).1, fun c hc => (p2.2.2.2.1 c 0 hc).1, (p2.2.2.2.1 35 0 (by omega)).2.1⟩
  obtain ⟨q, M2, u1, u2, u3, u4⟩ := K_seek86 (c := c) (i := i) ok ho hw hf (l1 := lN f) (l4 := l4) (d2 := none) (lsm L) 0 (by omega) w1 (f1.wv wv) (fun j hj => by
    have : j = 0 := by omega
    subst this
    rw [Nat.sub_zero, Nat.div_eq_of_lt hf]
    exact f1.w0 w0) p3 d5'
  refine ⟨q, M2, ?_, u2, f1.tr u3, u4⟩
  rw [C_X10_seek]
  simp only [w.c7, Option.bind_some, lg_cmp_lt, pk_lLT (show f < 2 ^ 63 by omega) (show 0 < 2 ^ 63 by omega), w.2.1.tt, pk_lLT (show f < 2 ^ 63 by omega) (show cB K ^ lsm L < 2 ^ 63 by omega), w.d8]
  rw [if_neg (by simp), if_neg (by omega), if_pos hf]
  have e : nI (lsm L) - nI 1 = nI (lsm L) + (-1) := by
    rw [Int32.sub_eq_add_neg]
    congr 1
  rw [e, p1, u1]
/-- the walk stands at n -/
theorem K_onward {c K d : Nat} {L : Nat → Nat} {i : Nat} (ok : okC K d L) {o : Nat} (ho : o = 0 ∨ o = 1) {wl wh : Nat → Nat} (hw : ∀ a, a < 3 → wl a ≤ wh a ∧ wh a < 2 ^ 20) {M : q_M} (w : WK M c K d L i) (wv : WV M wl wh) {n : Nat} (hn : n < cB K ^ lsm L) (pt : PT M (cmO K d L) (lsm L) n (lsm L)) : ∃ q M1, q_CL 75 [.inr (.inr (some 25)), .inl (nI o)] M = some (some (.inr (.inl (rL q))), M1) ∧ Nx (Pr (cmO K d L) (lsm L) o wl wh) (cB K ^ lsm L) (n + 1) q ∧ WF M M1 ∧ ∀ N, q = some N → PT M1 (cmO K d L) (lsm L) N (lsm L) := by
  have B2 := cB_2 K
  have eB := cmO_B K d L
  have pB : ∀ j, 0 < cB K ^ j := fun j => Nat.pow_pos (by omega)
  obtain ⟨q, M1, u1, u2, u3, u4⟩ := K_climb (c := c) (i := i) ok ho hw hn (f := n + 1) (Nat.le_refl (lsm L)) (fun j hj => le_nd n _ (pB _)) (fun m h1 h2 => by
    rw [Nat.sub_self, Nat.pow_zero, Nat.div_one, Nat.mul_one] at h2
    omega) w wv ⟨fun j hj => by have := pt.1 j (by omega); rw [eB] at this; exact this, fun j hj => by have := pt.2 j hj; rw [eB] at this; exact this⟩
  refine ⟨q, M1, ?_, u2, u3, u4⟩
  rw [C_X10_onward]
  simp only [w.c7, Option.bind_some]
  rw [if_neg (by simp)]
  simp only [w.d8, Option.bind_some, w_sel w.1, u1, z_rL]
theorem K_leaf {c K d : Nat} {L : Nat → Nat} {i : Nat} (ok : okC K d L) {M : q_M} (w : WK M c K d L i) {n : Nat} (pt : PT M (cmO K d L) (lsm L) n (lsm L)) {a : Nat} (ha : a < 3) : q_CL 72 [.inr (.inr (some 25)), .inl (nI a)] M = some (some (.inl (nI (plc (cmO K d L) (lsm L) n a))), M) := by
  have h60 := okC_60 ok
  have e := (pt.1 (lsm L) (Nat.le_refl _)).1 a ha
  rw [Nat.sub_self, Nat.pow_zero, Nat.div_one] at e
  rw [C_X10_leaf]
  simp only [w_f w.1 (show (25, 0, 26) ∈ q_crs by decide), Option.bind_some, w_lo w.1 ha, w.d8, w_a w.1 (w61_l ha).1 (show lsm L < 61 by omega), e.1]
  rfl
theorem K_numOf {c K d : Nat} {L : Nat → Nat} {i : Nat} (ok : okC K d L) {M : q_M} (h : SH M) (co : CO M c K d L i) (z1 : gI M 34 0 = nI 0) (z2 : gL M 35 0 = lN 0) {q : Nat → Nat} (hq : ∀ a, a < 3 → q a < cB K ^ L a) : ∃ M1, q_CL 73 [.inr (.inr (some 25)), .inr (.inr (some c)), .inl (nI (q 0)), .inl (nI (q 1)), .inl (nI (q 2))] M = some (some (.inr (.inl (lN (np (cmO K d L) q (lsm L))))), M1) ∧ FC wsc M M1 ∧ gI M1 34 0 = nI 0 ∧ gL M1 35 0 = lN 0 := by
  have B2 := cB_2 K
  have h60 := okC_60 ok
  have g := gd_co ok
  have eB := cmO_B K d L
  have hI : inb (bx (cmO K d L) 0 0) q := fun a ha => ⟨Nat.zero_le _, by
    show q a < 0 + (cmO K d L).2.2.2.2 a
    rw [cmO_R, Nat.zero_add]; exact hq a ha⟩
  have q20 : ∀ a, a < 3 → q a < 2 ^ 20 := fun a ha => by have := hq a ha; have := (room_c ok ha).2; omega
  obtain ⟨A, a1, a2, a3, a4, a5⟩ := K_enter h co ok z1 z2
  have key : ∀ m k, k + m = lsm L → ∀ {M : q_M}, WK M c K d L i → WD M (cmO K d L) k (np (cmO K d L) q k) → ∀ d6 d7 d8, ∃ M1, q_RL T_X10_numberOf (8, [some (.inr (.inr (some 25))), some (.inr (.inr (some c))), some (.inl (nI (q 0))), some (.inl (nI (q 1))), some (.inl (nI (q 2))), some (.inl (nI k)), d6, d7, d8], [], M) = some (some (.inr (.inl (lN (np (cmO K d L) q (lsm L))))), M1) ∧ WF M M1 := by
    intro m
    induction m with
    | zero =>
      intro k hk M w wd d6 d7 d8
      rw [Nat.add_zero] at hk
      rw [hk] at wd ⊢
      refine ⟨M, ?_, WF.rf M⟩
      rw [E_X10_numberOf_8]
      simp only [w.d8, Option.bind_some]
      rw [if_pos (nI_le (Nat.le_refl _) (by omega))]
      simp only [w_f w.1 (show (25, 3, 35) ∈ q_crs by decide), Option.bind_some, w_aL w.1 (show lsm L < 61 by omega), wd.2.2]
    | succ m ih =>
      intro k hk M w wd d6 d7 d8
      obtain ⟨n1, n2⟩ := np_in g hI k (by omega)
      have n1' : np (cmO K d L) q k < cB K ^ k := by rw [← eB]; exact n1
      obtain ⟨so, _⟩ := st_ok ok (show k ≤ lsm L by omega) n1'
      obtain ⟨q1, q2, q3, q4⟩ := g.2.1 k _ (show k < lsm L by omega) n1
      obtain ⟨y1, y1s, y1c⟩ := K_ax w.2.1 ok (show k < lsm L by omega) so
      obtain ⟨e1, e2⟩ := wd.1 _ q1
      have ni := n2 _ q1
      have br := bx_room g (show k ≤ lsm L by omega) n1 q1
      rw [cmO_R] at br
      have rc := (room_c ok q1).2
      have pe : bxp (cmO K d L) k (np (cmO K d L) q k) = (bx (cmO K d L) k (np (cmO K d L) q k)).2.1 (bxa (cmO K d L) k (np (cmO K d L) q k)) / cB K := by rw [← eB]
      have dl := dgt_lt g (show k < lsm L by omega) n1 n2
      rw [eB] at dl
      have xl : (q (bxa (cmO K d L) k (np (cmO K d L) q k)) - (bx (cmO K d L) k (np (cmO K d L) q k)).1 (bxa (cmO K d L) k (np (cmO K d L) q k))) / bxp (cmO K d L) k (np (cmO K d L) q k) < cB K := by
        rw [Nat.div_lt_iff_lt_mul q2]
        rw [q3, eB, Nat.mul_comm] at ni
        omega
      obtain ⟨y2, y2s, y2c⟩ := K_tu w.2.1 ok (show k < lsm L by omega) so xl
      have dg : (cmO K d L).2.2.1 k (bx (cmO K d L) k (np (cmO K d L) q k)).2.2 ((q (bxa (cmO K d L) k (np (cmO K d L) q k)) - (bx (cmO K d L) k (np (cmO K d L) q k)).1 (bxa (cmO K d L) k (np (cmO K d L) q k))) / bxp (cmO K d L) k (np (cmO K d L) q k)) = dgt (cmO K d L) k (np (cmO K d L) q k) q := rfl
      rw [dg] at y2c
      obtain ⟨M1, s1, s2, s3, s4⟩ := K_step w ok wd (by omega) n1' dl
      have en : np (cmO K d L) q k * cB K + dgt (cmO K d L) k (np (cmO K d L) q k) q = np (cmO K d L) q (k + 1) := by rw [← eB]; rfl
      rw [en] at s3
      have w1 := w.kp s2
      have st := wd.2.1
      have cx : (cmO K d L).2.1 k (bx (cmO K d L) k (np (cmO K d L) q k)).2.2 = bxa (cmO K d L) k (np (cmO K d L) q k) := rfl
      rw [cx] at y1c
      have qa := q20 _ q1
      rw [E_X10_numberOf_8]
      simp only [w.d8, Option.bind_some]
      rw [if_neg (nI_ge (by omega) (by omega))]
      simp only [w_f w.1 (show (25, 2, 34) ∈ q_crs by decide), Option.bind_some, w_a w.1 (show w61 34 by unfold w61; omega) (show k < 61 by omega), st, y1s, y1c, z_rI, w_f w.1 (show (25, 1, 30) ∈ q_crs by decide), w_si w.1 q1, w_a w.1 (w61_l q1).2 (show k < 61 by omega), e2, w.2.1.bs, if_neg (nI_ne0 (show 0 < cB K by omega) (show cB K < 2 ^ 31 by omega)), pk_div (show (bx (cmO K d L) k (np (cmO K d L) q k)).2.1 (bxa (cmO K d L) k (np (cmO K d L) q k)) < 2 ^ 31 by omega) (show 0 < cB K by omega) (show cB K < 2 ^ 31 by omega), ← pe, w_f w.1 (show (25, 0, 26) ∈ q_crs by decide), w_lo w.1 q1, w_a w.1 (w61_l q1).1 (show k < 61 by omega), e1]
      have pl : bxp (cmO K d L) k (np (cmO K d L) q k) < 2 ^ 31 := by rw [pe]; exact Nat.lt_of_le_of_lt (Nat.div_le_self _ _) (by omega)
      rw [if_pos (nI_le q2 pl)]
      have pz : ¬ nI (bxp (cmO K d L) k (np (cmO K d L) q k)) = 0 := nI_ne0 q2 pl
      simp only [if_neg pz]
      generalize hax : bxa (cmO K d L) k (np (cmO K d L) q k) = ax at *
      have fin : ∀ xq, xq = nI (q ax) → (xq - nI ((bx (cmO K d L) k (np (cmO K d L) q k)).1 ax)) / nI (bxp (cmO K d L) k (np (cmO K d L) q k)) = nI ((q ax - (bx (cmO K d L) k (np (cmO K d L) q k)).1 ax) / bxp (cmO K d L) k (np (cmO K d L) q k)) := fun xq z => by
        rw [z, pk_sub ni.1, pk_div (by omega) q2 pl]
      have go : ∀ d6 d7 d8, ∃ M2, q_RL T_X10_numberOf (8, [some (.inr (.inr (some 25))), some (.inr (.inr (some c))), some (.inl (nI (q 0))), some (.inl (nI (q 1))), some (.inl (nI (q 2))), some (.inl (nI (k + 1))), d6, d7, d8], [], M1) = some (some (.inr (.inl (lN (np (cmO K d L) q (lsm L))))), M2) ∧ WF M M2 := fun d6 d7 d8 => by
        obtain ⟨M2, u1, u2⟩ := ih (k + 1) (by omega) w1 s3 d6 d7 d8
        exact ⟨M2, u1, (WF.ws s2).tr u2⟩
      rw [← nI_0]
      simp only [nI_eq (show ax < 2 ^ 31 by omega) (show 0 < 2 ^ 31 by omega), nI_eq (show ax < 2 ^ 31 by omega) (show 1 < 2 ^ 31 by omega)]
      by_cases c0 : ax = 0
      · rw [if_pos c0]
        simp only [fin (nI (q 0)) (by rw [c0]), y2s, Option.bind_some, y2c, z_rI, w_sel w.1, s1, z_rV, nI_1]
        exact go _ _ _
      rw [if_neg c0]
      by_cases c1 : ax = 1
      · rw [if_pos c1]
        simp only [fin (nI (q 1)) (by rw [c1]), y2s, Option.bind_some, y2c, z_rI, w_sel w.1, s1, z_rV, nI_1]
        exact go _ _ _
      rw [if_neg c1]
      have c2 : ax = 2 := by omega
      simp only [fin (nI (q 2)) (by rw [c2]), y2s, Option.bind_some, y2c, z_rI, w_sel w.1, s1, z_rV, nI_1]
      exact go _ _ _
  obtain ⟨M1, u1, u2⟩ := key (lsm L) 0 (by omega) a3 a4 none none none
  have w0' := u2.w0 a4
  refine ⟨M1, ?_, a2.tr u2.1, w0'.2.1, w0'.2.2⟩
  rw [C_X10_numberOf]
  simp only [w_sel h, Option.bind_some, a1, z_rV, u1]
