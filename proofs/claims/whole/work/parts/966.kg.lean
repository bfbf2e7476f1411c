/-! ===== THE CLASS: what stands of the State at base b ===== -/
/-- the first state and prefix of the walk are nothing -/
def WZ (M : q_M) : Prop := gI M 34 0 = nI 0 ∧ gL M 35 0 = lN 0
/-- the curves -/
def CS (M : q_M) (b : Nat) (v : Nat → Nat) : Prop := gI M b 1 = nI (v 0) ∧ ∀ i, i < v 0 → ∃ c, gR M (b + 1) i = some c ∧ CO M c (cK v i) (cD v i) (cL v i) i
theorem c_now {M : q_M} (h : SH M) {k c : Nat} (e : (1, k, c) ∈ q_crs) : q_fR M 11 1 k = some (some c) := y_fR h (by omega) rfl e
theorem s_now {M : q_M} (h : SH M) {k c : Nat} (e : (2, k, c) ∈ q_crs) : q_fR M 8 2 k = some (some c) := y_fR h (by omega) rfl e
theorem c_sel {M : q_M} (h : SH M) {y : Nat} : q_sel M [(11, y)] 1 = some y := y_sel h (by omega) rfl
theorem WZ.fc {P : Nat → Prop} {M M1 : q_M} (f : FC P M M1) (h : ¬ P 34 ∧ ¬ P 35) (z : WZ M) : WZ M1 := ⟨(f.2.2.2.1 34 0 h.1).1.trans z.1, (f.2.2.2.1 35 0 h.2).2.1.trans z.2⟩
theorem WZ.wf {M M1 : q_M} (f : WF M M1) (z : WZ M) : WZ M1 := ⟨(f.2.2.2.2.1 34 (by omega)).trans z.1, f.2.2.2.2.2.trans z.2⟩
theorem WZ.wd {M : q_M} {m : Cm} (w : WD M m 0 0) : WZ M := ⟨w.2.1, w.2.2⟩
theorem CS.fc {P : Nat → Prop} {M M1 : q_M} (f : FC P M M1) (hp : ∀ a, P a → a < 63 ∧ a ≠ 23) {b : Nat} (h1 : ¬ P b ∧ ¬ P (b + 1)) {v : Nat → Nat} (c : CS M b v) : CS M1 b v := ⟨(f.2.2.2.1 b 1 h1.1).1.trans c.1, fun i hi => by
  obtain ⟨x, x1, x2⟩ := c.2 i hi
  exact ⟨x, (f.2.2.2.1 (b + 1) i h1.2).2.2.trans x1, x2.fc f hp⟩⟩
/-- curveAt -/
theorem K_cA_no {v : Nat → Nat} (wc : WC v) {M : q_M} (h : SH M) (c : CS M 2 v) {x : Int32} (n : ¬ ∃ i, i < v 0 ∧ x = nI i) : q_CL 87 [.inr (.inr (some 1)), .inl x] M = some (some (.inr (.inr none)), M) := by
  have w0 := wc.1
  rw [C_X11_curveAt]
  simp only [c_now h (show (1, 0, 2) ∈ q_crs by decide), Option.bind_some, y_fI h (show 2 < 63 by omega) (show q_isT 8 (q_tgs.getD 2 0) = true from rfl), c.1]
  rcases pk_ix x (show v 0 < 2 ^ 31 by omega) with q | q | ⟨j, hj, e⟩
  · rw [if_pos q]
  · by_cases y : x < 0
    · rw [if_pos y]
    · rw [if_neg y, if_neg]
      intro u
      have a := Int32.le_iff_toInt_le.mp q
      have b := Int32.lt_iff_toInt_lt.mp u
      omega
  · exact absurd ⟨j, hj, e⟩ n
theorem K_cA {v : Nat → Nat} (wc : WC v) {M : q_M} (h : SH M) (c : CS M 2 v) {i : Nat} (hi : i < v 0) : ∃ o, q_CL 87 [.inr (.inr (some 1)), .inl (nI i)] M = some (some (.inr (.inr (some o))), M) ∧ CO M o (cK v i) (cD v i) (cL v i) i := by
  have w0 := wc.1
  obtain ⟨o, o1, o2⟩ := c.2 i hi
  refine ⟨o, ?_, o2⟩
  rw [C_X11_curveAt]
  simp only [c_now h (show (1, 0, 2) ∈ q_crs by decide), Option.bind_some, y_fI h (show 2 < 63 by omega) (show q_isT 8 (q_tgs.getD 2 0) = true from rfl), c.1]
  rw [if_neg (nI_pos (by omega)), if_pos (nI_lt hi (by omega))]
  simp only [s_now h (show (2, 0, 3) ∈ q_crs by decide), Option.bind_some, z_aR (a := 3) (k := i) (n := 8) (show 17 ≤ M.1 3 ∧ M.1 3 ≤ 22 by rw [h.tg (a := 3) (by omega) rfl]; decide) (h.ln (a := 3) (by omega) (by omega) rfl) (show i < 8 by omega) (by omega), show gR M 3 i = some o from o1]
theorem CO.s4 {M : q_M} {c K d : Nat} {L : Nat → Nat} {i : Nat} (h : CO M c K d L i) : q_sel M [(0, 4), (6, 4), (9, 4)] c = some 4 := by
  have := h.1
  unfold q_sel
  rw [this]
  unfold kT
  by_cases k2 : K = 2
  · rw [if_pos k2, if_neg (by omega)]
    unfold q_sel
    rw [this]
    unfold kT
    rw [if_pos k2, if_neg (by omega)]
    exact z_sel (by rw [this]; unfold kT; rw [if_pos k2])
  · rw [if_neg k2]
    by_cases k3 : K = 3
    · rw [if_pos k3, if_neg (by omega)]
      exact z_sel (by rw [this]; unfold kT; rw [if_neg k2, if_pos k3])
    · rw [if_neg k3, if_pos rfl]
theorem okI_S {v : Nat → Nat} {i : Nat} (hc : okI v i) : cB (cK v i) ^ lsm (cL v i) = cS v i := hc.2.symm
theorem isP_q {v : Nat → Nat} {i : Nat} (hc : okI v i) {q q2 : Nat → Nat} (hq : ∀ a, a < 3 → q a < cB (cK v i) ^ cL v i a) (hq2 : ∀ a, a < 3 → q2 a < cB (cK v i) ^ cL v i a) (e0 : nI (q 0) = nI (q2 0)) (e1 : nI (q 1) = nI (q2 1)) (e2 : nI (q 2) = nI (q2 2)) : ∀ a, a < 3 → q2 a = q a := by
  intro a ha
  have r := room_le hc ha
  have := hq a ha
  have := hq2 a ha
  rcases (show a = 0 ∨ a = 1 ∨ a = 2 by omega) with rfl | rfl | rfl
  · exact ((nI_eq (by omega) (by omega)).mp e0).symm
  · exact ((nI_eq (by omega) (by omega)).mp e1).symm
  · exact ((nI_eq (by omega) (by omega)).mp e2).symm
theorem np_q {m : Cm} {D : Nat} (g : Gd m D) {q q2 : Nat → Nat} (hq : inb (bx m 0 0) q) (e : ∀ a, a < 3 → q2 a = q a) : np m q2 D = np m q D := by
  have k := np_in g hq D (Nat.le_refl D)
  exact (np_eq g D _ (Nat.le_refl D) k.1 (q := q2) (fun a ha => by rw [e a ha]; exact k.2 a ha)).2
/-! number, size, place -/
theorem K_number_no {v : Nat → Nat} (wc : WC v) {M : q_M} (h : SH M) (c : CS M 2 v) {x1 x y z : Int32} (n : ¬ (∃ i, i < v 0 ∧ x1 = nI i ∧ isP v i x y z)) : q_CL 82 [.inr (.inr (some 1)), .inl x1, .inl x, .inl y, .inl z] M = some (some (.inr (.inl (-1))), M) := by
  rw [C_X11_number]
  simp only [c_sel h, Option.bind_some]
  by_cases hx : ∃ i, i < v 0 ∧ x1 = nI i
  · obtain ⟨i, hi, rfl⟩ := hx
    obtain ⟨o, o1, o2⟩ := K_cA wc h c hi
    have hc := wc.2 i hi
    rw [o1]
    simp only [z_rR, Option.bind_some]
    rw [if_neg (by simp)]
    simp only [o2.s4, Option.bind_some]
    rcases K_holds o2 (fun a ha => by have := room_le hc ha; omega) x y z with ⟨_, e⟩ | ⟨p, _⟩
    · rw [e]; rfl
    · exact absurd ⟨i, hi, rfl, p⟩ n
  · rw [K_cA_no wc h c hx]
    rfl
theorem K_number {v : Nat → Nat} (wc : WC v) {M : q_M} (h : SH M) (c : CS M 2 v) (wz : WZ M) {i : Nat} (hi : i < v 0) {q : Nat → Nat} (hq : ∀ a, a < 3 → q a < cB (cK v i) ^ cL v i a) : ∃ M1, q_CL 82 [.inr (.inr (some 1)), .inl (nI i), .inl (nI (q 0)), .inl (nI (q 1)), .inl (nI (q 2))] M = some (some (.inr (.inl (lN (npI v i q)))), M1) ∧ FC wsc M M1 ∧ WZ M1 := by
  have hc := wc.2 i hi
  obtain ⟨o, o1, o2⟩ := K_cA wc h c hi
  obtain ⟨M1, m1, m2, m3, m4⟩ := K_numOf hc.1 h o2 wz.1 wz.2 hq
  refine ⟨M1, ?_, m2, m3, m4⟩
  rw [C_X11_number]
  simp only [c_sel h, Option.bind_some, o1, z_rR]
  rw [if_neg (by simp)]
  simp only [o2.s4, Option.bind_some]
  rcases K_holds o2 (fun a ha => by have := room_le hc ha; omega) (nI (q 0)) (nI (q 1)) (nI (q 2)) with ⟨p, _⟩ | ⟨_, e⟩
  · exact absurd ⟨q, hq, rfl, rfl, rfl⟩ p
  · rw [e]
    simp only [z_rI, Option.bind_some]
    rw [if_neg (show ¬ nI 1 = 0 by decide +kernel)]
    simp only [c_now h (show (1, 4, 25) ∈ q_crs by decide), Option.bind_some, w_sel h, m1, z_rL]
    rfl
theorem K_size_no {v : Nat → Nat} (wc : WC v) {M : q_M} (h : SH M) (c : CS M 2 v) {x1 : Int32} (n : ¬ (∃ i, i < v 0 ∧ x1 = nI i)) : q_CL 84 [.inr (.inr (some 1)), .inl x1] M = some (some (.inr (.inl (lN 0))), M) := by
  rw [C_X11_size]
  simp only [c_sel h, Option.bind_some, K_cA_no wc h c n, z_rR]
  rfl
theorem K_size {v : Nat → Nat} (wc : WC v) {M : q_M} (h : SH M) (c : CS M 2 v) {i : Nat} (hi : i < v 0) : q_CL 84 [.inr (.inr (some 1)), .inl (nI i)] M = some (some (.inr (.inl (lN (cS v i)))), M) := by
  obtain ⟨o, o1, o2⟩ := K_cA wc h c hi
  rw [C_X11_size]
  simp only [c_sel h, Option.bind_some, o1, z_rR]
  rw [if_neg (by simp)]
  simp only [o2.tt, Option.bind_some, okI_S (wc.2 i hi)]
/-- the whole as a window -/
theorem whole_in {v : Nat → Nat} {i : Nat} (hc : okI v i) {n : Nat} (hn : n < cS v i) : Pr (cmO (cK v i) (cD v i) (cL v i)) (lsm (cL v i)) 1 (fun _ => 0) (fun a => cB (cK v i) ^ cL v i a - 1) n := by
  refine Or.inl ⟨rfl, fun a ha => ⟨Nat.zero_le _, ?_⟩⟩
  have := plI_lt hc hn a ha
  show plI v i n a ≤ cB (cK v i) ^ cL v i a - 1
  omega
theorem whole_w {v : Nat → Nat} {i : Nat} (hc : okI v i) : ∀ a, a < 3 → (fun _ => 0 : Nat → Nat) a ≤ (fun a => cB (cK v i) ^ cL v i a - 1) a ∧ (fun a => cB (cK v i) ^ cL v i a - 1) a < 2 ^ 20 := fun a ha => by
  have := room_le hc ha
  exact ⟨Nat.zero_le _, by show cB (cK v i) ^ cL v i a - 1 < 2 ^ 20; omega⟩
/-- stands at n, all of the curve being the window -/
theorem K_stand {v : Nat → Nat} {i : Nat} (hc : okI v i) {M : q_M} (h : SH M) (wz : WZ M) {o : Nat} (co : CO M o (cK v i) (cD v i) (cL v i) i) {n : Nat} (hn : n < cS v i) : ∃ A B, q_CL 68 [.inr (.inr (some 25)), .inr (.inr (some o))] M = some (none, A) ∧ SH A ∧ q_CL 74 [.inr (.inr (some 25)), .inr (.inl (lN n)), .inl (nI 1)] A = some (some (.inr (.inl (lN n))), B) ∧ FC wsc M B ∧ WK B o (cK v i) (cD v i) (cL v i) i ∧ WV B (fun _ => 0) (fun a => cB (cK v i) ^ cL v i a - 1) ∧ PT B (cmI v i) (lsm (cL v i)) n (lsm (cL v i)) ∧ WZ B := by
  obtain ⟨A, a1, a2, a3, a4, a5⟩ := K_enter h co hc.1 wz.1 wz.2
  have c62 := cS_62 hc
  obtain ⟨q, B, b1, b2, b3, b4⟩ := K_seek (c := o) (i := i) hc.1 (o := 1) (Or.inr rfl) (whole_w hc) a3 a5 a4 (f := n) (by rw [okI_S hc]; exact hn) (by rw [okI_S hc]; omega)
  have eq : q = some n := by
    refine Nx.uniq b2 ⟨Nat.le_refl _, by rw [okI_S hc]; exact hn, whole_in hc hn, fun m h1 h2 => by omega⟩
  subst eq
  exact ⟨A, B, a1, a3.1, b1, a2.tr b3.1, b3.wk a3, b3.wv a5, b4 n rfl, WZ.wd (b3.w0 a4)⟩
theorem K_place_no {v : Nat → Nat} (wc : WC v) {M : q_M} (h : SH M) (c : CS M 2 v) {x1 : Int32} {l : Int64} {x : Int32} (n : ¬ (∃ i n a, i < v 0 ∧ x1 = nI i ∧ n < cS v i ∧ l = lN n ∧ a < 3 ∧ x = nI a)) : q_CL 83 [.inr (.inr (some 1)), .inl x1, .inr (.inl l), .inl x] M = some (some (.inl (-1)), M) := by
  rw [C_X11_place]
  simp only [c_sel h, Option.bind_some]
  by_cases hx : ∃ i, i < v 0 ∧ x1 = nI i
  · obtain ⟨i, hi, rfl⟩ := hx
    obtain ⟨o, o1, o2⟩ := K_cA wc h c hi
    have hc := wc.2 i hi
    have c62 := cS_62 hc
    rw [o1]
    simp only [z_rR, Option.bind_some]
    rw [if_neg (by simp)]
    simp only [lg_cmp_lt, o2.tt, Option.bind_some, lg_cmp_ge, okI_S hc]
    by_cases l0 : l < lN 0
    · rw [if_pos l0]
    rw [if_neg l0]
    obtain ⟨k, hk, rfl⟩ := pk_lOf (x := l) l0
    simp only [pk_lLE (show cS v i < 2 ^ 63 by omega) hk]
    by_cases l1 : cS v i ≤ k
    · rw [if_pos l1]
    rw [if_neg l1]
    rcases ix3 x (show 2 + 1 < 2 ^ 31 by omega) with z | ⟨z1, z2, z3⟩ | ⟨a, ha, rfl⟩
    · rw [if_pos z]
    · rw [if_neg z1, if_neg]
      intro u
      have p := Int32.lt_iff_toInt_lt.mp z2
      have q := Int32.lt_iff_toInt_lt.mp u
      rw [nI_toInt (by omega)] at p q
      omega
    · exact absurd ⟨i, k, a, hi, rfl, by omega, rfl, by omega, rfl⟩ n
  · rw [K_cA_no wc h c hx]
    rfl
theorem K_place {v : Nat → Nat} (wc : WC v) {M : q_M} (h : SH M) (c : CS M 2 v) (wz : WZ M) {i n a : Nat} (hi : i < v 0) (hn : n < cS v i) (ha : a < 3) : ∃ M1, q_CL 83 [.inr (.inr (some 1)), .inl (nI i), .inr (.inl (lN n)), .inl (nI a)] M = some (some (.inl (nI (plI v i n a))), M1) ∧ FC wsc M M1 ∧ WZ M1 := by
  have hc := wc.2 i hi
  have c62 := cS_62 hc
  obtain ⟨o, o1, o2⟩ := K_cA wc h c hi
  obtain ⟨A, B, a1, a2, b1, b2, b3, b4, b5, b6⟩ := K_stand hc h wz o2 hn
  refine ⟨B, ?_, b2, b6⟩
  have hB := b3.1
  rw [C_X11_place]
  simp only [c_sel h, Option.bind_some, o1, z_rR]
  rw [if_neg (by simp)]
  simp only [lg_cmp_lt, o2.tt, Option.bind_some, lg_cmp_ge, okI_S hc, pk_lLT (show n < 2 ^ 63 by omega) (show 0 < 2 ^ 63 by omega), pk_lLE (show cS v i < 2 ^ 63 by omega) (show n < 2 ^ 63 by omega)]
  rw [if_neg (by omega), if_neg (by omega), if_neg (nI_pos (by omega)), if_pos (nI_lt ha (by omega))]
  simp only [c_now h (show (1, 4, 25) ∈ q_crs by decide), Option.bind_some, w_sel h, a1, z_rV, c_now a2 (show (1, 4, 25) ∈ q_crs by decide), w_sel a2, b1, z_rL, c_now hB (show (1, 4, 25) ∈ q_crs by decide), w_sel hB, K_leaf hc.1 b3 b5 ha, z_rI]
  rfl
