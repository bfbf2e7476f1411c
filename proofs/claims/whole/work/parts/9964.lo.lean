/-! ===== THE CLASS: witness, out, forge ===== -/
def YI (M : q_M) (bt : Nat → Int32) (n : Nat) : Prop := gI M 1 3 = nI n ∧ n ≤ 2700 ∧ ∀ k, k < n → gI M 24 k = bt k
theorem YI.fc {P : Nat → Prop} {n s : Nat} {M M1 : q_M} (f : FB P n s M M1) (g : 63 ≤ gN M) (h : ¬ P 1 ∧ ¬ P 24) {bt : Nat → Int32} {N : Nat} (y : YI M bt N) : YI M1 bt N := ⟨((f.2.2.2.2.1 1 3 (by omega) h.1).1).trans y.1, y.2.1, fun k hk => ((f.2.2.2.2.1 24 k (by omega) h.2).1).trans (y.2.2 k hk)⟩
theorem i1 {M : q_M} (h : SH M) : q_isT 11 (M.1 1) = true := by rw [h.1 1 (by omega)]; rfl
theorem a24 {M : q_M} (h : SH M) {k : Nat} (hk : k < 2700) : q_aI M 13 24 (nI k) = some (gI M 24 k) := y_aI h (by omega) (by omega) rfl hk (by decide)
theorem b24 {M : q_M} (h : SH M) {k : Nat} {x : Int32} (hk : k < 2700) : q_bI M 13 24 (nI k) x = some (stI M 24 k x) := y_bI h (by omega) (by omega) rfl hk (by decide)
theorem K_out_no {M : q_M} (h : SH M) {bt : Nat → Int32} {n : Nat} (y : YI M bt n) {x1 : Int32} (no : ¬ (∃ i, i < n ∧ x1 = nI i)) : q_CL 127 [.inr (.inr (some 1)), .inl x1] M = some (some (.inl (-1)), M) := by
  have := y.2.1
  rw [C_X11_out]
  by_cases c : x1 < 0
  · rw [if_pos c]
  rw [if_neg c]
  obtain ⟨k, hk, rfl⟩ := nI_of c
  simp only [z_fI (i1 h), y.1, Option.bind_some]
  rw [if_neg (nI_nlt (by apply Classical.byContradiction; intro z; exact no ⟨k, by omega, rfl⟩) hk)]
theorem K_out {M : q_M} (h : SH M) {bt : Nat → Int32} {n : Nat} (y : YI M bt n) {i : Nat} (hi : i < n) : q_CL 127 [.inr (.inr (some 1)), .inl (nI i)] M = some (some (.inl (bt i &&& nI 255)), M) := by
  have := y.2.1
  rw [C_X11_out, if_neg (nI_pos (by omega))]
  simp only [z_fI (i1 h), y.1, Option.bind_some]
  rw [if_pos (nI_lt hi (by omega))]
  simp only [c_now h (show (1, 2, 24) ∈ q_crs by decide), Option.bind_some, a24 h (show i < 2700 by omega), y.2.2 i hi]
theorem K_forge_no {M : q_M} (h : SH M) {bt : Nat → Int32} {n : Nat} (y : YI M bt n) {x1 x2 : Int32} (no : ¬ (∃ i, i < n ∧ x1 = nI i)) : q_CL 128 [.inr (.inr (some 1)), .inl x1, .inl x2] M = some (some (.inl (-1)), M) := by
  have := y.2.1
  rw [C_X11_forge]
  by_cases c : x1 < 0
  · rw [if_pos c]
  rw [if_neg c]
  obtain ⟨k, hk, rfl⟩ := nI_of c
  simp only [z_fI (i1 h), y.1, Option.bind_some]
  rw [if_neg (nI_nlt (by apply Classical.byContradiction; intro z; exact no ⟨k, by omega, rfl⟩) hk)]
def oP (a : Nat) : Prop := a = 1 ∨ a = 24
theorem K_forge {M : q_M} (h : SH M) {bt : Nat → Int32} {n : Nat} (y : YI M bt n) {i : Nat} {x2 : Int32} (hi : i < n) : ∃ M1, q_CL 128 [.inr (.inr (some 1)), .inl (nI i), .inl x2] M = some (some (.inl (bt i &&& nI 255)), M1) ∧ FC oP M M1 ∧ YI M1 (va_up bt i (byI x2)) n := by
  have n27 := y.2.1
  refine ⟨stI M 24 i (byI x2), ?_, (FC.rf oP M).sI (Or.inr rfl), (gI_oth (by omega)).trans y.1, y.2.1, fun k hk => ?_⟩
  · rw [C_X11_forge, if_neg (nI_pos (by omega))]
    simp only [z_fI (i1 h), y.1, Option.bind_some]
    rw [if_pos (nI_lt hi (by omega))]
    simp only [c_now h (show (1, 2, 24) ∈ q_crs by decide), Option.bind_some, a24 h (show i < 2700 by omega), y.2.2 i hi, b24 h (show i < 2700 by omega)]
    rfl
  · rw [gI_stI]
    by_cases e : k = i
    · rw [if_pos ⟨rfl, e⟩, e, va_up_self]
    · rw [if_neg (fun z => e z.2), va_up_ne _ _ e]; exact y.2.2 k hk
/-! witness -/
theorem K_wi108 {M0 : q_M} {k P : Nat} (hk : k < P) (hP : P ≤ 300) (h0 : SH M0) {rd : Nat → Bool} {f : Nat → Nat} (bf : gL M0 40 k = lN (f k)) {x1 x2 x3 x4 x5 x6 : Int32} {r : Nat} : ∀ m i, i + m = 8 → ∀ A, FC oP M0 A → gI A 1 3 = nI (9 * k + 1 + i) → (∀ x, x < 9 * k + 1 + i → gI A 24 x = wtB rd f x) → ∃ M1 e9, q_RL T_X11_witness (108, [some (.inr (.inr (some 1))), some (.inl x1), some (.inl x2), some (.inl x3), some (.inl x4), some (.inl x5), some (.inl x6), some (.inr (.inr (some r))), some (.inl (nI k)), some (.inl (nI 56 - nI (8 * i)))], [], A) = q_RL T_X11_witness (56, [some (.inr (.inr (some 1))), some (.inl x1), some (.inl x2), some (.inl x3), some (.inl x4), some (.inl x5), some (.inl x6), some (.inr (.inr (some r))), some (.inl (nI (k + 1))), e9], [], M1) ∧ FC oP M0 M1 ∧ gI M1 1 3 = nI (9 * (k + 1)) ∧ ∀ x, x < 9 * (k + 1) → gI M1 24 x = wtB rd f x := by
  intro m
  induction m with
  | zero =>
    intro i hi A fA g1 g2
    have e : i = 8 := by omega
    subst e
    refine ⟨A, some (.inl (nI 56 - nI (8 * 8))), ?_, fA, g1, fun x hx => g2 x (by omega)⟩
    rw [E_X11_witness_108, if_pos (by decide +kernel), nI_1]
  | succ m ih =>
    intro i hi A fA g1 g2
    have hA := fA.sh h0
    have g40 : gL A 40 k = lN (f k) := ((fA.2.2.2.1 40 k (by unfold oP; omega)).2.1).trans bf
    have e56 : nI 56 - nI (8 * i) = nI (56 - 8 * i) := pk_sub (by omega)
    have e57 : nI (56 - 8 * i) + (-8) = nI 56 - nI (8 * (i + 1)) := by
      rcases (show i = 0 ∨ i = 1 ∨ i = 2 ∨ i = 3 ∨ i = 4 ∨ i = 5 ∨ i = 6 ∨ i = 7 by omega) with rfl | rfl | rfl | rfl | rfl | rfl | rfl | rfl <;> decide +kernel
    obtain ⟨M1, e9, u1, u2⟩ := ih (i + 1) (by omega) (stI (stI A 24 (9 * k + 1 + i) (byI (Int64.toInt32 (lN (f k) >>> (Int32.toInt64 (nI (56 - 8 * i)) &&& 63))))) 1 3 (nI (9 * k + 1 + i + 1))) ((fA.sI (Or.inr rfl)).sI (Or.inl rfl)) gI_self (fun x hx => by
      rw [gI_oth (by omega), gI_stI]
      by_cases q : x = 9 * k + 1 + i
      · rw [if_pos ⟨rfl, q⟩, q]
        unfold wtB
        rw [if_neg (by omega), show (9 * k + 1 + i) / 9 = k by omega, show (9 * k + 1 + i) % 9 - 1 = i by omega]
      · rw [if_neg (fun z => q z.2)]; exact g2 x (by omega))
    refine ⟨M1, e9, ?_, u2⟩
    have hB : SH (stI A 24 (9 * k + 1 + i) (byI (Int64.toInt32 (lN (f k) >>> (Int32.toInt64 (nI (56 - 8 * i)) &&& 63))))) := hA
    have g3 : gI (stI A 24 (9 * k + 1 + i) (byI (Int64.toInt32 (lN (f k) >>> (Int32.toInt64 (nI (56 - 8 * i)) &&& 63))))) 1 3 = nI (9 * k + 1 + i) := (gI_oth (by omega)).trans g1
    rw [E_X11_witness_108, e56, if_neg (nI_pos (by omega))]
    simp only [c_now hA (show (1, 2, 24) ∈ q_crs by decide), z_fI (i1 hA), g1, c_now hA (show (1, 5, 39) ∈ q_crs by decide), Option.bind_some, f39 hA (show (39, 0, 40) ∈ q_crs by decide), a40 hA (show k < 300 by omega), g40, b24 hA (show 9 * k + 1 + i < 2700 by omega)]
    rw [show Int8.toInt32 (Int32.toInt8 (Int8.toInt32 (Int32.toInt8 (Int64.toInt32 (lN (f k) >>> (Int32.toInt64 (nI (56 - 8 * i)) &&& 63)))))) = byI (Int64.toInt32 (lN (f k) >>> (Int32.toInt64 (nI (56 - 8 * i)) &&& 63))) from rfl]
    simp only [z_fI (i1 hB), g3, Option.bind_some, nI_add, z_sI (i1 hB), e57]
    exact u1
theorem K_wi56 {M0 : q_M} {r ps sz : Nat} {v : Nat → Nat} {o : Nat} (h0 : SH M0) (w0 : RWx M0 r ps sz v o) (st : ST M0 r ∧ ST M0 ps ∧ ST M0 sz) {P : Nat} (eP : v (o + 3) = P) (hP : P ≤ 300) {rd : Nat → Bool} {f : Nat → Nat} (bf : ∀ k, k < P → gL M0 40 k = lN (f k)) (rr : RD M0 rd P) {x1 x2 x3 x4 x5 x6 : Int32} : ∀ m k, k + m = P → ∀ A, FC oP M0 A → gI A 1 3 = nI (9 * k) → (∀ x, x < 9 * k → gI A 24 x = wtB rd f x) → ∀ d9, ∃ M1, q_RL T_X11_witness (56, [some (.inr (.inr (some 1))), some (.inl x1), some (.inl x2), some (.inl x3), some (.inl x4), some (.inl x5), some (.inl x6), some (.inr (.inr (some r))), some (.inl (nI k)), d9], [], A) = some (some (.inl (nI (9 * P))), M1) ∧ FC oP M0 M1 ∧ YI M1 (wtB rd f) (9 * P) := by
  have P63 : ∀ a, oP a → a < 63 ∧ a ≠ 23 := fun a z => by unfold oP at z; omega
  intro m
  induction m with
  | zero =>
    intro k hk A fA g1 g2 d9
    have w := w0.fc fA P63 st.1 st.2.1 st.2.2
    have e : k = P := by omega
    subst e
    refine ⟨A, ?_, fA, g1, by omega, g2⟩
    rw [E_X11_witness_56]
    simp only [Option.bind_some, w.f3, eP]
    rw [if_pos (nI_le (Nat.le_refl _) (by omega))]
    simp only [z_fI (i1 (fA.sh h0)), g1, Option.bind_some]
  | succ m ih =>
    intro k hk A fA g1 g2 d9
    have hA := fA.sh h0
    have w := w0.fc fA P63 st.1 st.2.1 st.2.2
    have g41 : gI A 41 k = nI (bN (rd k)) := ((fA.2.2.2.1 41 k (by unfold oP; omega)).1).trans (rr k (by omega))
    obtain ⟨B, e9, u1, u2, u3, u4⟩ := K_wi108 (rd := rd) (f := f) (r := r) (x1 := x1) (x2 := x2) (x3 := x3) (x4 := x4) (x5 := x5) (x6 := x6) (show k < P by omega) hP h0 (bf k (by omega)) 8 0 (by omega) (stI (stI A 24 (9 * k) (byI (nI (bN (rd k))))) 1 3 (nI (9 * k + 1))) ((fA.sI (Or.inr rfl)).sI (Or.inl rfl)) gI_self (fun x hx => by
      rw [gI_oth (by omega), gI_stI]
      by_cases q : x = 9 * k
      · rw [if_pos ⟨rfl, q⟩, q]
        unfold wtB
        rw [if_pos (by omega), show 9 * k / 9 = k by omega]
      · rw [if_neg (fun z => q z.2)]; exact g2 x (by omega))
    obtain ⟨M1, y1, y2⟩ := ih (k + 1) (by omega) B u2 u3 u4 e9
    refine ⟨M1, ?_, y2⟩
    have e0 : nI 56 - nI (8 * 0) = nI 56 := by decide +kernel
    rw [e0] at u1
    have hB : SH (stI A 24 (9 * k) (byI (nI (bN (rd k))))) := hA
    have g3 : gI (stI A 24 (9 * k) (byI (nI (bN (rd k))))) 1 3 = nI (9 * k) := (gI_oth (by omega)).trans g1
    rw [E_X11_witness_56]
    simp only [Option.bind_some, w.f3, eP]
    rw [if_neg (nI_ge (by omega) (by omega))]
    simp only [c_now hA (show (1, 2, 24) ∈ q_crs by decide), z_fI (i1 hA), g1, c_now hA (show (1, 5, 39) ∈ q_crs by decide), Option.bind_some, f39 hA (show (39, 1, 41) ∈ q_crs by decide), a41 hA (show k < 300 by omega), g41, b24 hA (show 9 * k < 2700 by omega)]
    cases e : rd k with
    | false =>
      rw [e] at u1 hB g3
      rw [if_pos (show nI (bN false) = 0 by decide +kernel)]
      rw [show Int8.toInt32 (Int32.toInt8 (Int8.toInt32 (Int32.toInt8 (nI 0)))) = byI (nI (bN false)) from rfl]
      simp only [z_fI (i1 hB), g3, Option.bind_some, nI_add, z_sI (i1 hB)]
      rw [u1]
      exact y1
    | true =>
      rw [e] at u1 hB g3
      rw [if_neg (show ¬ nI (bN true) = 0 by decide +kernel)]
      rw [show Int8.toInt32 (Int32.toInt8 (Int8.toInt32 (Int32.toInt8 (nI 1)))) = byI (nI (bN true)) from rfl]
      simp only [z_fI (i1 hB), g3, Option.bind_some, nI_add, z_sI (i1 hB)]
      rw [u1]
      exact y1
def wtP (a : Nat) : Prop := nrP 45 46 47 a ∨ oP a
theorem K_wit_no {v : Nat → Nat} (sv : SV v) {M : q_M} (h : SH M) (hs : HS M 2 v) {x1 x2 x3 x4 x5 x6 : Int32} (n : ¬ ∃ j q wy n, askI v x1 x2 x3 x4 x5 x6 j q wy n) : ∃ M1, q_CL 126 [.inr (.inr (some 1)), .inl x1, .inl x2, .inl x3, .inl x4, .inl x5, .inl x6] M = some (some (.inl (-1)), M1) ∧ FC s39 M M1 := by
  rw [C_X11_witness]
  simp only [c_sel h, Option.bind_some]
  by_cases c : ∃ j q wy, aimI v x1 x2 x3 x4 x5 j q wy
  rotate_left
  · refine ⟨M, ?_, FC.rf _ M⟩
    simp only [K_aimAt_no sv h hs c, z_rR, Option.bind_some]
    rw [if_pos trivial]
  obtain ⟨j, q, wy, a⟩ := c
  obtain ⟨r, ps, sz, M1, u1, u2, _⟩ := K_aimAt sv h hs a
  refine ⟨M1, ?_, u2⟩
  simp only [u1, z_rR, Option.bind_some]
  rw [if_neg (by simp)]
  by_cases c0 : x6 < nI 1
  · rw [if_pos c0]
  rw [if_neg c0]
  have c1 : ¬ x6 < 0 := fun z => c0 (by
    have a := Int32.lt_iff_toInt_lt.mp z
    rw [show (0 : Int32) = nI 0 from nI_0.symm, nI_toInt (by omega)] at a
    apply Int32.lt_iff_toInt_lt.mpr
    rw [nI_toInt (by omega)]
    omega)
  obtain ⟨k, hk, rfl⟩ := nI_of c1
  by_cases c2 : k ≤ 20
  · obtain ⟨a1, a2, a3, a4, a5, a6, a7, a8, a9⟩ := a
    exact absurd ⟨j, q, wy, k, a1, a2, a3, a4, a5, a6, a7, a8, a9, rfl, Nat.pos_of_ne_zero (fun z => c0 (by rw [z]; exact nI_lt (by omega) (by omega))), c2⟩ n
  · rw [if_neg (nI_ge (by omega) hk)]
theorem K_wit {v : Nat → Nat} (sv : SV v) {M : q_M} (h : SH M) (hs : HS M 2 v) {x1 x2 x3 x4 x5 x6 : Int32} {j : Nat} {q : Nat → Nat} {wy n t : Nat} {rd : Nat → Bool} (a : askI v x1 x2 x3 x4 x5 x6 j q wy n) (rf : rdF v (oS j) q wy n t rd) : ∃ M1, q_CL 126 [.inr (.inr (some 1)), .inl x1, .inl x2, .inl x3, .inl x4, .inl x5, .inl x6] M = some (some (.inl (nI (9 * v (oS j + 3)))), M1) ∧ FC wtP M M1 ∧ YI M1 (wtB rd (bxF v (oS j) q wy)) (9 * v (oS j + 3)) := by
  obtain ⟨a1, a2, a3, a4, a5, a6, a7, a8, a9, rfl, a10, a11⟩ := a
  have ai : aimI v x1 x2 x3 x4 x5 j q wy := ⟨a1, a2, a3, a4, a5, a6, a7, a8, a9⟩
  obtain ⟨i8, hc⟩ := sv.i8 a1 a3
  have sw := sv.sw a1 a3
  have s1 := sw.1
  have s2 := sw.2.1
  obtain ⟨r, ps, sz, A, u1, u2, u3, u4, u5⟩ := K_aimAt sv h hs ai
  have hA := u2.sh h
  obtain ⟨t', rd', B, b1, b2, b3, b4, b5, b6, b7, b8⟩ := K_rdN hA (FS_spare hA) ap_spare u4 u5 sw hc u3 ⟨a10, a11⟩ a11
  obtain ⟨rfl, rfl⟩ := rdF_eq b1 rf
  have hB := b3.sh hA
  have P63 := nrP_63 (FS_spare hA) hA
  have wB := u4.fc b3 P63 u5.1 u5.2.1 u5.2.2
  have n23 : ¬ nrP 45 46 47 23 := fun z => (P63 23 z).2 rfl
  have fC : FC oP B (stI B 1 3 (nI 0)) := (FC.rf oP B).sI (Or.inl rfl)
  have O63 : ∀ a, oP a → a < 63 ∧ a ≠ 23 := fun a z => by unfold oP at z; omega
  have o23 : ¬ oP 23 := by unfold oP; omega
  have stB : ST B r ∧ ST B ps ∧ ST B sz := ⟨b3.st n23 u5.1, b3.st n23 u5.2.1, b3.st n23 u5.2.2⟩
  have wC := wB.fc fC O63 stB.1 stB.2.1 stB.2.2
  obtain ⟨M1, y1, y2, y3⟩ := K_wi56 (x1 := x1) (x2 := x2) (x3 := x3) (x4 := x4) (x5 := x5) (x6 := nI n) (fC.sh hB) wC ⟨fC.st o23 stB.1, fC.st o23 stB.2.1, fC.st o23 stB.2.2⟩ rfl (by omega) (rd := rd') (f := bxF v (oS j) q wy) b6 (fun k hk => (gI_oth (by omega)).trans (b7 k hk)) (v (oS j + 3)) 0 (by omega) _ (FC.rf _ _) gI_self (fun x hx => by omega) none
  refine ⟨M1, ?_, (u2.wk (fun _ z => Or.inl (Or.inl z))).tr ((b3.wk (fun _ z => Or.inl z)).tr ((fC.wk (fun _ z => Or.inr z)).tr (y2.wk (fun _ z => Or.inr z)))), y3⟩
  rw [C_X11_witness]
  simp only [c_sel h, Option.bind_some, u1, z_rR]
  rw [if_neg (by simp), if_neg (nI_nlt a10 (by omega)), if_pos (nI_le a11 (by omega))]
  simp only [c_now hA (show (1, 5, 39) ∈ q_crs by decide), c_now hA (show (1, 7, 45) ∈ q_crs by decide), Option.bind_some, s39_sel hA, b2, z_rV, z_sI (i1 hB)]
  exact y1
