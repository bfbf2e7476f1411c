/-! ===== THE CLASS: shelves ===== -/
theorem CO.cg {M : q_M} {c K d : Nat} {L L' : Nat → Nat} {i : Nat} (h : CO M c K d L i) (e : ∀ a, a < 3 → L' a = L a) : CO M c K d L' i := by
  have el : lsm L' = lsm L := by unfold lsm; rw [e 0 (by omega), e 1 (by omega), e 2 (by omega)]
  obtain ⟨h1, h2, h3, h4, h5, h6, rm, od, r1, r2, r3, r4, r5, r6, r7, r8, r9, r10⟩ := h
  refine ⟨h1, h2, h3, h4, by rw [el]; exact h5, h6, rm, od, r1, r2, r3, fun a ha => by rw [e a ha]; exact r4 a ha, r5, r6, by rw [el]; exact r7, fun k hk => ?_, r9, r10⟩
  rw [el] at hk
  rw [owK_cg e]
  exact r8 k hk
/-- the curve of an index, in a state with the same curves -/
theorem CO.vu {M : q_M} {c : Nat} {v u : Nat → Nat} {i : Nat} (hi : i < 8) (e : ∀ x, x < 49 → u x = v x) (h : CO M c (cK v i) (cD v i) (cL v i) i) : CO M c (cK u i) (cD u i) (cL u i) i := by
  obtain ⟨e1, e2, e3, e4⟩ := cX_cg e hi
  rw [e1, e2]
  exact h.cg e3
/-- shelf j of the state at b -/
def SHj (M : q_M) (b : Nat) (v : Nat → Nat) (j : Nat) : Prop := (v (oS j) = 0 ∧ gR M (b + 13 + 2 * j) 1 = none) ∨ (v (oS j) = 1 ∧ gI M (b + 13 + 2 * j) 3 = nI (v (60180 + j)) ∧ ∃ c r, gR M (b + 13 + 2 * j) 0 = some c ∧ CO M c (cK v (v (oS j + 1))) (cD v (v (oS j + 1))) (cL v (v (oS j + 1))) (v (oS j + 1)) ∧ gR M (b + 13 + 2 * j) 1 = some r ∧ RW M r v (oS j) ∧ ∀ n, 1 ≤ n → n ≤ v (60180 + j) → ∃ rn, gR M (b + 14 + 2 * j) (v (60180 + j) - n) = some rn ∧ RW M rn v (oS j + 2110 * n))
def HS (M : q_M) (b : Nat) (v : Nat → Nat) : Prop := ∀ j, j < 4 → SHj M b v j
theorem SHj.kp {M M1 : q_M} {b : Nat} {v : Nat → Nat} {j : Nat} (s : SHj M b v j) (k : KP M M1) (e : ∀ x, gI M1 (b + 13 + 2 * j) x = gI M (b + 13 + 2 * j) x ∧ gR M1 (b + 13 + 2 * j) x = gR M (b + 13 + 2 * j) x ∧ gR M1 (b + 14 + 2 * j) x = gR M (b + 14 + 2 * j) x) : SHj M1 b v j := by
  rcases s with ⟨a1, a2⟩ | ⟨a1, a2, c, r, a3, a4, a5, a6, a7⟩
  · exact Or.inl ⟨a1, ((e 1).2.1).trans a2⟩
  · refine Or.inr ⟨a1, ((e 3).1).trans a2, c, r, ((e 0).2.1).trans a3, a4.kp k, ((e 1).2.1).trans a5, a6.kp k, fun n h1 h2 => ?_⟩
    obtain ⟨rn, b1, b2⟩ := a7 n h1 h2
    exact ⟨rn, ((e _).2.2).trans b1, b2.kp k⟩
theorem HS.fb {P : Nat → Prop} {n s : Nat} {M M1 : q_M} (f : FB P n s M M1) (g : 63 ≤ gN M) (hp : ∀ a, a < gN M → P a → a < 63 ∧ a ≠ 23) {b : Nat} (hb : b + 21 ≤ gN M) (hq : ∀ j, j < 8 → ¬ P (b + 13 + j)) {v : Nat → Nat} (h : HS M b v) : HS M1 b v := fun j hj => by
  refine (h j hj).kp (f.kp g hp) (fun x => ?_)
  have a := f.2.2.2.2.1 (b + 13 + 2 * j) x (by omega) (hq (2 * j) (by omega))
  have c := f.2.2.2.2.1 (b + 14 + 2 * j) x (by omega) (by have := hq (2 * j + 1) (by omega); rw [show b + 13 + (2 * j + 1) = b + 14 + 2 * j by omega] at this; exact this)
  exact ⟨a.1, a.2.2, c.2.2⟩
theorem SHj.cg {M : q_M} {b : Nat} {v u : Nat → Nat} {k : Nat} (sv : SV v) (hk : k < 4) (s : SHj M b v k) (e1 : ∀ x, x < 49 → u x = v x) (e2 : ∀ x, x < 14770 → u (oS k + x) = v (oS k + x)) (e3 : u (60180 + k) = v (60180 + k)) : SHj M b u k := by
  have q0 := e2 0 (by omega)
  rw [Nat.add_zero] at q0
  have q1 := e2 1 (by omega)
  rcases s with ⟨a1, a2⟩ | ⟨a1, a2, c, r, a3, a4, a5, a6, a7⟩
  · exact Or.inl ⟨q0.trans a1, a2⟩
  · obtain ⟨i8, _⟩ := sv.i8 hk a1
    have svk := (sv.2 k hk).2.2 a1
    have sl := (sv.2 k hk).2.1
    refine Or.inr ⟨q0.trans a1, by rw [e3]; exact a2, c, r, a3, by rw [q1]; exact a4.vu i8 e1, a5, ?_, fun n h1 h2 => ?_⟩
    · have sw := sv.sw hk a1
      exact a6.cg sw.1 (Nat.le_trans sw.2.1 sw.1) (fun x hx => e2 x (by omega))
    · rw [e3] at h2 ⊢
      obtain ⟨rn, b1, b2⟩ := a7 n h1 h2
      have sw := (svk.2 n h2).2.2
      refine ⟨rn, b1, b2.cg sw.1 (Nat.le_trans sw.2.1 sw.1) (fun x hx => ?_)⟩
      have := e2 (2110 * n + x) (by omega)
      rw [Nat.add_assoc, this, ← Nat.add_assoc]
/-! shelfAt -/
theorem h_obj {j : Nat} (hj : j < 4) : q_tgs.getD (15 + 2 * j) 0 = 5 ∧ q_tgs.getD (16 + 2 * j) 0 = 19 ∧ q_lns.getD (16 + 2 * j) 0 = 6 ∧ (4, j, 15 + 2 * j) ∈ q_crs ∧ (15 + 2 * j, 2, 16 + 2 * j) ∈ q_crs := by
  rcases (show j = 0 ∨ j = 1 ∨ j = 2 ∨ j = 3 by omega) with rfl | rfl | rfl | rfl <;> decide
theorem h_isc {j k : Nat} (hj : j < 4) (hk : k ≠ 2) : q_isc (15 + 2 * j) k = false := by
  unfold q_isc
  rw [List.any_eq_false]
  intro e he
  have : ∀ j, j < 4 → ∀ e ∈ q_crs, e.1 = 15 + 2 * j → e.2.1 = 2 := by decide
  intro z
  rw [Bool.and_eq_true] at z
  have z1 := Nat.eq_of_beq_eq_true z.1
  have z2 := Nat.eq_of_beq_eq_true z.2
  have := this j hj e he z1
  omega
theorem h_isc2 {j k : Nat} (hj : j < 4) : q_isc (16 + 2 * j) k = false := by
  unfold q_isc
  rw [List.any_eq_false]
  intro e he
  have : ∀ j, j < 4 → ∀ e ∈ q_crs, e.1 ≠ 16 + 2 * j := by decide
  intro z
  rw [Bool.and_eq_true] at z
  have z1 := Nat.eq_of_beq_eq_true z.1
  exact this j hj e he z1
theorem h_t {M : q_M} (h : SH M) {j : Nat} (hj : j < 4) : M.1 (15 + 2 * j) = 5 ∧ M.1 (16 + 2 * j) = 19 ∧ M.2.1 (16 + 2 * j) = 6 ∧ gR M 4 j = some (15 + 2 * j) ∧ gR M (15 + 2 * j) 2 = some (16 + 2 * j) := by
  obtain ⟨a1, a2, a3, a4, a5⟩ := h_obj hj
  exact ⟨(h.1 _ (by omega)).trans a1, (h.1 _ (by omega)).trans a2, (h.2.1 _ (by omega) (by omega)).trans a3, h.cr _ a4, h.cr _ a5⟩
theorem h_is {M : q_M} (h : SH M) {j : Nat} (hj : j < 4) : q_isT 5 (M.1 (15 + 2 * j)) = true := by rw [(h_t h hj).1]; rfl
theorem K_sA_no {v : Nat → Nat} (sv : SV v) {M : q_M} (h : SH M) (hs : HS M 2 v) {x : Int32} (n : ¬ (∃ j, j < 4 ∧ x = nI j ∧ v (oS j) = 1)) : q_CL 98 [.inr (.inr (some 1)), .inl x] M = some (some (.inr (.inr none)), M) := by
  rw [C_X11_shelfAt]
  by_cases c0 : x < 0
  · rw [if_pos c0]
  rw [if_neg c0]
  obtain ⟨j, hj, rfl⟩ := nI_of c0
  by_cases c1 : 4 ≤ j
  · rw [if_pos (nI_le c1 hj)]
  rw [if_neg (nI_ge (by omega) (by omega))]
  have hj4 : j < 4 := by omega
  obtain ⟨t1, t2, t3, t4, t5⟩ := h_t h hj4
  have a4 : q_aR M 4 (nI j) = some (some (15 + 2 * j)) := (z_aR (show 17 ≤ M.1 4 ∧ M.1 4 ≤ 22 by rw [h.1 4 (by omega)]; decide) (h.2.1 4 (by omega) (by omega)) hj4 (by decide)).trans (congrArg some t4)
  have e : gR M (15 + 2 * j) 1 = none := by
    rcases hs j hj4 with ⟨_, a2⟩ | ⟨a1, _⟩
    · exact a2
    · exact absurd ⟨j, hj4, rfl, a1⟩ n
  simp only [c_now h (show (1, 0, 2) ∈ q_crs by decide), s_now h (show (2, 2, 4) ∈ q_crs by decide), Option.bind_some, a4, z_fR (h_is h hj4), e]
  rw [if_pos trivial]
theorem K_sA {v : Nat → Nat} {M : q_M} (h : SH M) (hs : HS M 2 v) {j : Nat} (hj : j < 4) (e : v (oS j) = 1) : q_CL 98 [.inr (.inr (some 1)), .inl (nI j)] M = some (some (.inr (.inr (some (15 + 2 * j)))), M) := by
  rw [C_X11_shelfAt, if_neg (nI_pos (by omega)), if_neg (nI_ge hj (by omega))]
  obtain ⟨t1, t2, t3, t4, t5⟩ := h_t h hj
  have a4 : q_aR M 4 (nI j) = some (some (15 + 2 * j)) := (z_aR (show 17 ≤ M.1 4 ∧ M.1 4 ≤ 22 by rw [h.1 4 (by omega)]; decide) (h.2.1 4 (by omega) (by omega)) hj (by decide)).trans (congrArg some t4)
  rcases hs j hj with ⟨a1, _⟩ | ⟨a1, a2, c, r, a3, a4', a5, a6, a7⟩
  · omega
  have a5' : gR M (15 + 2 * j) 1 = some r := a5
  simp only [c_now h (show (1, 0, 2) ∈ q_crs by decide), s_now h (show (2, 2, 4) ∈ q_crs by decide), Option.bind_some, a4, z_fR (h_is h hj), a5']
  rw [if_neg (by simp)]
/-- what an open shelf holds -/
theorem HS.op {v : Nat → Nat} {M : q_M} (h : SH M) (hs : HS M 2 v) {j : Nat} (hj : j < 4) (e : v (oS j) = 1) : ∃ c r ps sz, q_fI M 5 (15 + 2 * j) 3 = some (nI (v (60180 + j))) ∧ q_fR M 5 (15 + 2 * j) 0 = some (some c) ∧ CO M c (cK v (v (oS j + 1))) (cD v (v (oS j + 1))) (cL v (v (oS j + 1))) (v (oS j + 1)) ∧ q_fR M 5 (15 + 2 * j) 1 = some (some r) ∧ RWx M r ps sz v (oS j) ∧ ST M r ∧ ST M ps ∧ ST M sz := by
  rcases hs j hj with ⟨a1, _⟩ | ⟨a1, a2, c, r, a3, a4, a5, ⟨ps, sz, a6, a7, a8, a9⟩, _⟩
  · omega
  · exact ⟨c, r, ps, sz, (z_fI (h_is h hj)).trans (congrArg some a2), (z_fR (h_is h hj)).trans (congrArg some a3), a4, (z_fR (h_is h hj)).trans (congrArg some a5), a6, a7, a8, a9⟩
/-! find -/
theorem K_find_no {v : Nat → Nat} (sv : SV v) {M : q_M} (h : SH M) (hs : HS M 2 v) {x1 x2 : Int32} (n : ¬ (∃ j, j < 4 ∧ x1 = nI j ∧ v (oS j) = 1)) : q_CL 93 [.inr (.inr (some 1)), .inl x1, .inl x2] M = some (some (.inl (-1)), M) := by
  rw [C_X11_find]
  simp only [c_sel h, Option.bind_some, K_sA_no sv h hs n, z_rR]
  rw [if_pos trivial]
theorem K_find {v : Nat → Nat} (sv : SV v) {M : q_M} (h : SH M) (hs : HS M 2 v) {j : Nat} (hj : j < 4) (e : v (oS j) = 1) (x : Int32) : ((∀ p, p < v (oS j + 2) → x ≠ nI (v (oS j + 4 + 6 * p))) → q_CL 93 [.inr (.inr (some 1)), .inl (nI j), .inl x] M = some (some (.inl (-1)), M)) ∧ ∀ p, nmAt v (oS j) x p → q_CL 93 [.inr (.inr (some 1)), .inl (nI j), .inl x] M = some (some (.inl (nI p)), M) := by
  obtain ⟨c, r, ps, sz, o1, o2, o3, o4, o5, _⟩ := HS.op h hs hj e
  have sw := sv.sw hj e
  have ki := K_idx o5 sw.1 x
  rw [C_X11_find]
  simp only [c_sel h, Option.bind_some, K_sA h hs hj e, z_rR]
  rw [if_neg (by simp)]
  simp only [Option.bind_some, o4, o5.sel]
  refine ⟨fun n => ?_, fun p hp => ?_⟩
  · rw [ki.1 n]; rfl
  · rw [ki.2 p hp]; rfl
/-! undo -/
def sh2 (j a : Nat) : Prop := a = 15 + 2 * j ∨ a = 16 + 2 * j
theorem sh2_63 {j : Nat} (hj : j < 4) : ∀ a, sh2 j a → a < 63 ∧ a ≠ 23 := fun a z => by unfold sh2 at z; omega
theorem HS.oth {j : Nat} {M M1 : q_M} (f : FC (sh2 j) M M1) (hj : j < 4) {v u : Nat → Nat} (sv : SV v) (h : HS M 2 v) (e1 : ∀ x, x < 49 → u x = v x) (e2 : ∀ k x, k < 4 → k ≠ j → x < 14770 → u (oS k + x) = v (oS k + x)) (e3 : ∀ k, k < 4 → k ≠ j → u (60180 + k) = v (60180 + k)) (own : SHj M1 2 u j) : HS M1 2 u := fun k hk => by
  by_cases c : k = j
  · rw [c]; exact own
  · refine ((h k hk).kp (f.kp (sh2_63 hj)) (fun x => ?_)).cg sv hk e1 (fun x hx => e2 k x hk c hx) (e3 k hk c)
    have a := f.2.2.2.1 (2 + 13 + 2 * k) x (by unfold sh2; omega)
    have d := f.2.2.2.1 (2 + 14 + 2 * k) x (by unfold sh2; omega)
    exact ⟨a.1, a.2.2, d.2.2⟩
theorem K_undo_no {v : Nat → Nat} (sv : SV v) {M : q_M} (h : SH M) (hs : HS M 2 v) {x : Int32} (n : ¬ (∃ j, j < 4 ∧ x = nI j ∧ v (oS j) = 1 ∧ 1 ≤ v (60180 + j))) : q_CL 97 [.inr (.inr (some 1)), .inl x] M = some (some (.inl (-1)), M) := by
  rw [C_X11_undo]
  by_cases c : ∃ j, j < 4 ∧ x = nI j ∧ v (oS j) = 1
  · obtain ⟨j, hj, rfl, e⟩ := c
    obtain ⟨c, r, ps, sz, o1, o2, o3, o4, o5, _⟩ := HS.op h hs hj e
    simp only [c_sel h, Option.bind_some, K_sA h hs hj e, z_rR]
    rw [if_neg (by simp)]
    simp only [Option.bind_some, z_sel (h_t h hj).1]
    rw [C_X5_takeBack]
    simp only [o1, Option.bind_some]
    rw [if_neg]
    · rfl
    · have : v (60180 + j) = 0 := Nat.eq_zero_of_not_pos (fun z => n ⟨j, hj, rfl, e, z⟩)
      rw [this]; decide +kernel
  · simp only [c_sel h, Option.bind_some, K_sA_no sv h hs c, z_rR]
    rw [if_pos trivial]
theorem K_undo {v : Nat → Nat} (sv : SV v) {M : q_M} (h : SH M) (hs : HS M 2 v) {j : Nat} (hj : j < 4) (e : v (oS j) = 1) (h1 : 1 ≤ v (60180 + j)) : ∃ M1, q_CL 97 [.inr (.inr (some 1)), .inl (nI j)] M = some (some (.inl (nI (v (60180 + j) - 1))), M1) ∧ FC (sh2 j) M M1 ∧ HS M1 2 (kpD v j) := by
  obtain ⟨t1, t2, t3, t4, t5⟩ := h_t h hj
  have l6 := (sv.2 j hj).2.1
  have ob := oS_b hj
  obtain ⟨d1, d2, d3, d4, d5⟩ := kpD_a (v := v) hj
  have ho := hs j hj
  rcases ho with ⟨a1, _⟩ | ⟨a1, a2, c, r, a3, a4, a5, a6, a7⟩
  · omega
  rw [show 2 + 13 + 2 * j = 15 + 2 * j by omega] at a2 a3 a5
  rw [show 2 + 14 + 2 * j = 16 + 2 * j by omega] at a7
  obtain ⟨r1, b1, b2⟩ := a7 1 (by omega) h1
  have i0 := h_is h hj
  have f : FC (sh2 j) M (stR (stI M (15 + 2 * j) 3 (nI (v (60180 + j) - 1))) (15 + 2 * j) 1 (some r1)) := ((FC.rf (sh2 j) M).sI (Or.inl rfl)).sR (Or.inl rfl) (h_isc hj (by omega))
  refine ⟨_, ?_, f, ?_⟩
  · rw [C_X11_undo]
    simp only [c_sel h, Option.bind_some, K_sA h hs hj e, z_rR]
    rw [if_neg (by simp)]
    simp only [Option.bind_some, z_sel t1]
    rw [C_X5_takeBack]
    have i1 : q_isT 5 ((stI M (15 + 2 * j) 3 (nI (v (60180 + j) - 1))).1 (15 + 2 * j)) = true := i0
    have i2 : q_isT 5 ((stR (stI M (15 + 2 * j) 3 (nI (v (60180 + j) - 1))) (15 + 2 * j) 1 (some r1)).1 (15 + 2 * j)) = true := i0
    have g3 : gI (stR (stI M (15 + 2 * j) 3 (nI (v (60180 + j) - 1))) (15 + 2 * j) 1 (some r1)) (15 + 2 * j) 3 = nI (v (60180 + j) - 1) := gI_self
    have g4 : gI (stI M (15 + 2 * j) 3 (nI (v (60180 + j) - 1))) (15 + 2 * j) 3 = nI (v (60180 + j) - 1) := gI_self
    have aR : q_aR (stI M (15 + 2 * j) 3 (nI (v (60180 + j) - 1))) (16 + 2 * j) (nI (v (60180 + j) - 1)) = some (some r1) := (z_aR (show 17 ≤ M.1 (16 + 2 * j) ∧ M.1 (16 + 2 * j) ≤ 22 by omega) t3 (by omega) (by decide)).trans (congrArg some b1)
    simp only [z_fI i0, a2, Option.bind_some]
    rw [if_pos (nI_le h1 (by omega))]
    simp only [z_fI i0, a2, Option.bind_some, pk_sub h1, z_sI i0, z_fR i1, gR_stI, t5, z_fI i1, g4, aR, z_sR i1, z_fI i2, g3, z_rI]
  · refine HS.oth f hj sv hs (fun x hx => d1 x (by omega)) d3 d5 (Or.inr ?_)
    have sl := (sv.2 j hj).2.2 e
    have q0 : kpD v j (oS j) = 1 := by
      have := d2 0 0 (by omega) (by omega)
      simp only [Nat.mul_zero, Nat.add_zero] at this
      rw [this]
      exact (sl.2 1 h1).1
    have q1 : kpD v j (oS j + 1) = v (oS j + 1) := by
      have := d2 0 1 (by omega) (by omega)
      simp only [Nat.mul_zero, Nat.add_zero] at this
      rw [this]
      exact (sl.2 1 h1).2.1
    rw [show 2 + 13 + 2 * j = 15 + 2 * j by omega, show 2 + 14 + 2 * j = 16 + 2 * j by omega]
    refine ⟨q0, by rw [d4]; exact gI_self, c, r1, ?_, ?_, ?_, ?_, fun n n1 n2 => ?_⟩
    · rw [gR_stR, if_neg (by omega), gR_stI]; exact a3
    · rw [q1]
      exact (a4.vu (sv.i8 hj e).1 (fun x hx => d1 x (by omega))).kp (f.kp (sh2_63 hj))
    · rw [gR_stR, if_pos ⟨rfl, rfl⟩]
    · have sw := (sl.2 1 h1).2.2
      refine (b2.cg sw.1 (Nat.le_trans sw.2.1 sw.1) (fun x hx => ?_)).kp (f.kp (sh2_63 hj))
      have := d2 0 x (by omega) hx
      rw [Nat.mul_zero, Nat.add_zero] at this
      exact this
    · rw [d4] at n2 ⊢
      obtain ⟨rn, y1, y2⟩ := a7 (n + 1) (by omega) (by omega)
      have sw := (sl.2 (n + 1) (by omega)).2.2
      have w3 : v (oS j + 2110 * (n + 1) + 3) ≤ 300 := Nat.le_trans sw.2.1 sw.1
      have y3 : RW M rn (kpD v j) (oS j + 2110 * n) := y2.cg sw.1 w3 (fun x hx => d2 n x (by omega) hx)
      refine ⟨rn, ?_, y3.kp (f.kp (sh2_63 hj))⟩
      rw [gR_stR, if_neg (by omega), gR_stI, show v (60180 + j) - 1 - n = v (60180 + j) - (n + 1) by omega]
      exact y1
