def ptP (a : Nat) : Prop := wsc a ∨ fdc 9 10 11 a
theorem ptP_63 : ∀ a, ptP a → a < 63 ∧ a ≠ 23 := fun a z => by unfold ptP wsc fdc at z; omega
theorem wnP_w {v : Nat → Nat} {o : Nat} {lo hi lo' hi' : Nat → Nat} (e : ∀ x, x < 3 → lo' x = lo x ∧ hi' x = hi x) (p : Nat) : wnP v o lo' hi' p 3 = wnP v o lo hi p 3 := by
  have : wnP v o lo' hi' p 3 = true ↔ wnP v o lo hi p 3 = true := by
    rw [wnP_in, wnP_in]
    constructor
    · intro h a ha
      rw [← (e a ha).1, ← (e a ha).2]; exact h a ha
    · intro h a ha
      rw [(e a ha).1, (e a ha).2]; exact h a ha
  cases a : wnP v o lo' hi' p 3 <;> cases b : wnP v o lo hi p 3 <;> simp_all
theorem hitN_w {v : Nat → Nat} {i o : Nat} {lo hi lo' hi' : Nat → Nat} (e : ∀ x, x < 3 → lo' x = lo x ∧ hi' x = hi x) : ∀ k {c}, hitN v i o lo' hi' k c → hitN v i o lo hi k c
  | 0, _, h => h
  | k + 1, c, ⟨c', h1, h2⟩ => by
    refine ⟨c', hitN_w e k h1, ?_⟩
    have q : hitP v i o lo' hi' k ↔ hitP v i o lo hi k := by
      constructor
      · rintro ⟨n, n1, n2, n3⟩; exact ⟨n, n1, n2, (wP_w e n).mp n3⟩
      · rintro ⟨n, n1, n2, n3⟩; exact ⟨n, n1, n2, (wP_w e n).mpr n3⟩
    rcases h2 with ⟨a, b⟩ | ⟨a, b⟩
    · exact Or.inl ⟨q.mp a, b⟩
    · exact Or.inr ⟨fun z => a (q.mpr z), b⟩
theorem K_poL {v : Nat → Nat} {i o j : Nat} {M0 : q_M} {r ps sz c : Nat} {x1 : Int32} (hj : j < 4) (h0 : SH M0) (o4 : gR M0 (15 + 2 * j) 1 = some r) (w0 : RWx M0 r ps sz v o) (st : ST M0 r ∧ ST M0 ps ∧ ST M0 sz) (sw : SW v i o) (hc : okI v i) {lo hi : Nat → Nat} (hb2 : ∀ a, a < 3 → lo a ≤ hi a ∧ hi a < 2 ^ 20) : ∀ n k, k + n = v (o + 3) → ∀ cc, hitN v i o lo hi k cc → ∀ A, FC ptP M0 A → WR A c v i lo hi → PQ A v o lo hi (psm v o k) cc → ∀ (d5 d6 d7 : Option q_V), ∃ cc' M1, hitN v i o lo hi (v (o + 3)) cc' ∧ q_RL T_X11_points (38, [some (.inr (.inr (some 1))), some (.inl x1), some (.inr (.inr (some (15 + 2 * j)))), some (.inl (nI (psm v o k))), some (.inl (nI k)), d5, d6, d7], [], A) = some (some (.inl (nI (cnt (fun p => wnP v o lo hi p 3) (v (o + 2))))), M1) ∧ FC ptP M0 M1 ∧ WZ M1 ∧ PQ M1 v o lo hi (v (o + 2)) cc' := by
  have s1 := sw.1
  have s2 := sw.2.1
  have c62 := cS_62 hc
  intro n
  induction n with
  | zero =>
    intro k hk cc hn A fA wr q d5 d6 d7
    have hA := fA.sh h0
    have w := w0.fc fA ptP_63 st.1 st.2.1 st.2.2
    have ek : k = v (o + 3) := by omega
    have ep : psm v o k = v (o + 2) := by rw [ek, sw.2.2.1]
    have o4' : q_fR A 5 (15 + 2 * j) 1 = some (some r) := by
      rw [z_fR (h_is hA hj), (fA.2.2.2.1 _ _ (by unfold ptP wsc fdc; omega)).2.2, o4]
    rw [ep] at q
    have q1 : gI A 9 2 = nI (cnt (fun p => wnP v o lo hi p 3) (v (o + 2))) := q.1
    refine ⟨cc, A, by rw [← ek]; exact hn, ?_, fA, WZ.wd wr.2.1, q⟩
    rw [E_X11_points_38]
    simp only [Option.bind_some, o4', w.f3]
    rw [if_pos (nI_le (by omega) (by omega))]
    simp only [c_now hA (show (1, 0, 2) ∈ q_crs by decide), s_now hA (show (2, 5, 9) ∈ q_crs by decide), Option.bind_some, z_fI (FS_now hA).is, q1]
  | succ n ih =>
    intro k hk cc hn A fA wr q d5 d6 d7
    have hA := fA.sh h0
    have w := w0.fc fA ptP_63 st.1 st.2.1 st.2.2
    have hk3 : k < v (o + 3) := by omega
    have pn := sw.pn hk3
    have z1 := (sw.2.2.2.1 k hk3).1
    have ep : psm v o k + v (o + 1804 + k) = psm v o (k + 1) := rfl
    have shf : ∀ B, FC ptP M0 B → q_fR B 5 (15 + 2 * j) 1 = some (some r) := fun B fB => by
      rw [z_fR (h_is (fB.sh h0) hj), (fB.2.2.2.1 _ _ (by unfold ptP wsc fdc; omega)).2.2, o4]
    obtain ⟨d, d1, d2⟩ := w.pt (show psm v o k < v (o + 2) by omega)
    obtain ⟨_, _, p3, p4⟩ := sw.2.2.2.2.1 (psm v o k) (by omega)
    have fl := d2.f.2.1
    have hf : v (o + 4 + 6 * psm v o k + 5) < cS v i := by rw [p4]; exact npI_lt hc p3
    obtain ⟨qq, B, b1, b2, b3, b4⟩ := K_seek (c := c) (i := i) hc.1 (o := 1) (Or.inr rfl) hb2 wr.1 wr.2.2 wr.2.1 (f := v (o + 4 + 6 * psm v o k + 5)) (by rw [okI_S hc]; exact hf) (by rw [okI_S hc]; omega)
    rw [okI_S hc] at b2
    have fB := fA.tr (b3.1.wk (fun _ z => (Or.inl z : ptP _)))
    have hB := fB.sh h0
    have wB := w0.fc fB ptP_63 st.1 st.2.1 st.2.2
    have wrB := WR.wf b3 wr
    have qB : PQ B v o lo hi (psm v o k) cc := FQ.kp q (b3.1.kp wsc_63) (fun x => ⟨(b3.1.2.2.2.1 9 x (by unfold wsc; omega)).1, (b3.1.2.2.2.1 11 x (by unfold wsc; omega)).2.1, (b3.1.2.2.2.1 10 x (by unfold wsc; omega)).2.2⟩)
    obtain ⟨d', d1', d2'⟩ := wB.pt (show psm v o (k + 1) - 1 < v (o + 2) by omega)
    have fl' := d2'.f.2.1
    obtain ⟨_, _, p3', p4'⟩ := sw.2.2.2.2.1 (psm v o (k + 1) - 1) (by omega)
    have hf' : v (o + 4 + 6 * (psm v o (k + 1) - 1) + 5) < cS v i := by rw [p4']; exact npI_lt hc p3'
    have skip : ¬ hitP v i o lo hi k → ∀ (d5 d6 d7 : Option q_V), ∃ cc' M1, hitN v i o lo hi (v (o + 3)) cc' ∧ q_RL T_X11_points (38, [some (.inr (.inr (some 1))), some (.inl x1), some (.inr (.inr (some (15 + 2 * j)))), some (.inl (nI (psm v o (k + 1)))), some (.inl (nI (k + 1))), d5, d6, d7], [], B) = some (some (.inl (nI (cnt (fun p => wnP v o lo hi p 3) (v (o + 2))))), M1) ∧ FC ptP M0 M1 ∧ WZ M1 ∧ PQ M1 v o lo hi (v (o + 2)) cc' := fun nh d5 d6 d7 => by
      have q2 : ∀ m y, y + m = psm v o (k + 1) → psm v o k ≤ y → PQ B v o lo hi y cc → PQ B v o lo hi (psm v o (k + 1)) cc := by
        intro m
        induction m with
        | zero => intro y hy _ qy; rw [show y = psm v o (k + 1) by omega] at qy; exact qy
        | succ m ihm => intro y hy hky qy; exact ihm (y + 1) (by omega) (by omega) (PQ_no qy (no_hit hc sw hk3 ⟨hky, by omega⟩ nh))
      exact ih (k + 1) (by omega) cc ⟨cc, hn, Or.inr ⟨nh, rfl⟩⟩ B fB wrB (q2 (psm v o (k + 1) - psm v o k) (psm v o k) (by omega) (Nat.le_refl _) qB) d5 d6 d7
    have b1' : q_CL 74 [.inr (.inr (some 25)), .inr (.inl (lN (v (o + 4 + 6 * psm v o k + 5)))), .inl (nI 1)] A = some (some (.inr (.inl (rL qq))), B) := b1
    rw [E_X11_points_38]
    simp only [Option.bind_some, shf A fA, w.f3]
    rw [if_neg (nI_ge (by omega) (by omega))]
    simp only [w.f1, Option.bind_some, w.sz hk3, nI_add, ep, c_now hA (show (1, 4, 25) ∈ q_crs by decide), shf A fA, w.f0, d1, fl, w_sel hA, b1', z_rL, lg_cmp_lt, nI_1]
    cases qq with
    | none =>
      rw [if_pos (show rL none < lN 0 by decide)]
      refine skip (fun ⟨m, m1, m2, m3⟩ => ?_) _ _ _
      refine b2 m m1 ?_ m3
      rw [show psm v o k + v (o + 1804 + k) - 1 = psm v o (k + 1) - 1 by omega] at m2
      omega
    | some N =>
      obtain ⟨N1, N2, N3, N4⟩ := b2
      have er : rL (some N) = lN N := rfl
      rw [er, if_neg (fun z => by have := (pk_lLT (by omega) (by omega)).mp z; omega)]
      simp only [shf B fB, Option.bind_some, wB.f0, pk_sub (show 1 ≤ psm v o (k + 1) by omega), d1', fl', lg_cmp_gt, pk_lLT (show v (o + 4 + 6 * (psm v o (k + 1) - 1) + 5) < 2 ^ 63 by omega) (show N < 2 ^ 63 by omega)]
      by_cases cl : v (o + 4 + 6 * (psm v o (k + 1) - 1) + 5) < N
      · rw [if_pos cl]
        refine skip (fun ⟨m, m1, m2, m3⟩ => ?_) _ _ _
        rw [show psm v o k + v (o + 1804 + k) - 1 = psm v o (k + 1) - 1 by omega] at m2
        exact N4 m m1 (by omega) m3
      · rw [if_neg cl]
        have hp : hitP v i o lo hi k := ⟨N, N1, by rw [show psm v o k + v (o + 1804 + k) - 1 = psm v o (k + 1) - 1 by omega]; omega, N3⟩
        have iB := (FS_now hB).is
        have g3 : gI B 9 3 = nI cc := qB.2.1
        have fC : FC ptP B (stI B 9 3 (nI (cc + 1))) := (FC.rf ptP B).sI (Or.inr (Or.inl rfl))
        have fC0 := fB.tr fC
        have hC := fC0.sh h0
        have wC := w0.fc fC0 ptP_63 st.1 st.2.1 st.2.2
        have wrC : WR (stI B 9 3 (nI (cc + 1))) c v i lo hi := WR.fc ((FC.rf (fun a => a = 9) B).sI rfl) (fun a z => by unfold wsc; omega) wrB
        have qC : PQ (stI B 9 3 (nI (cc + 1))) v o lo hi (psm v o k) (cc + 1) := ⟨(gI_oth (by omega)).trans qB.1, gI_self, fun r' hr => by
          obtain ⟨a, c, b1, b2⟩ := qB.2.2 r' hr
          exact ⟨a, c, b1, b2.kp (fC.kp ptP_63)⟩⟩
        have n23 : ¬ ptP 23 := fun z => (ptP_63 23 z).2 rfl
        obtain ⟨D, u1, u2, u3⟩ := K_apW hC wC ⟨fC0.st n23 st.1, fC0.st n23 st.2.1, fC0.st n23 st.2.2⟩ sw hc wrC.2.2 hb2 (a := psm v o k) (b := psm v o (k + 1)) (by omega) (by omega) qC
        have fD := fC0.tr (u2.wk (fun _ z => (Or.inr z : ptP _)))
        obtain ⟨cc', M1, y1, y2, y3⟩ := ih (k + 1) (by omega) (cc + 1) ⟨cc, hn, Or.inl ⟨hp, rfl⟩⟩ D fD (WR.fc u2 (fun a z => by unfold wsc; unfold fdc at z; omega) wrC) u3 (some (.inl (nI (psm v o (k + 1))))) (some (.inr (.inl (lN N)))) none
        refine ⟨cc', M1, y1, ?_, y3⟩
        simp only [c_now hB (show (1, 0, 2) ∈ q_crs by decide), s_now hB (show (2, 5, 9) ∈ q_crs by decide), Option.bind_some, z_fI iB, g3, nI_add, z_sI iB, shf _ fC0, c_sel hC, u1, z_rV]
        exact y2
theorem K_points_no {v : Nat → Nat} (sv : SV v) {M : q_M} (h : SH M) (hs : HS M 2 v) (wz : WZ M) {w : Nat → Int32} (cr : CR M 2 w) {x1 : Int32} (n : ¬ (∃ j lo hi, j < 4 ∧ x1 = nI j ∧ v (oS j) = 1 ∧ isW v (v (oS j + 1)) w lo hi)) : ∃ M1, q_CL 111 [.inr (.inr (some 1)), .inl x1] M = some (some (.inl (-1)), M1) ∧ FC wsc M M1 ∧ WZ M1 := by
  rw [C_X11_points]
  by_cases c : ∃ j, j < 4 ∧ x1 = nI j ∧ v (oS j) = 1
  rotate_left
  · refine ⟨M, ?_, FC.rf _ M, wz⟩
    simp only [c_sel h, Option.bind_some, K_sA_no sv h hs c, z_rR]
    rw [if_pos trivial]
  obtain ⟨j, hj, rfl, e⟩ := c
  obtain ⟨c, r, ps, sz, o1, o2, o3, o4, o5, _⟩ := HS.op h hs hj e
  have hc := (sv.i8 hj e).2
  rcases K_eW hc h wz cr o3 with ⟨lo, hi, A, z, _⟩ | ⟨_, A, e1, f, w2⟩
  · exact absurd ⟨j, lo, hi, hj, rfl, e, z⟩ n
  refine ⟨A, ?_, f, w2⟩
  simp only [c_sel h, Option.bind_some, K_sA h hs hj e, z_rR]
  rw [if_neg (by simp)]
  simp only [o2, Option.bind_some, e1, z_rI]
  rw [if_pos nI_0]
theorem K_points {v : Nat → Nat} (sv : SV v) {M : q_M} (h : SH M) (hs : HS M 2 v) (wz : WZ M) {w : Nat → Int32} (cr : CR M 2 w) {j : Nat} {lo hi : Nat → Nat} {cc : Nat} (hj : j < 4) (e : v (oS j) = 1) (hw : isW v (v (oS j + 1)) w lo hi) (hn : hitN v (v (oS j + 1)) (oS j) lo hi (v (oS j + 3)) cc) : ∃ M1, q_CL 111 [.inr (.inr (some 1)), .inl (nI j)] M = some (some (.inl (nI (cnt (fun p => wnP v (oS j) lo hi p 3) (v (oS j + 2))))), M1) ∧ FC ptP M M1 ∧ WZ M1 ∧ FN M1 2 (ptV v (oS j) lo hi cc (cnt (fun p => wnP v (oS j) lo hi p 3) (v (oS j + 2)))) := by
  obtain ⟨c, r, ps, sz, o1, o2, o3, o4, o5, st⟩ := HS.op h hs hj e
  have hc := (sv.i8 hj e).2
  have sw := sv.sw hj e
  have s1 := sw.1
  have ob := oS_b hj
  rcases K_eW hc h wz cr o3 with ⟨lo', hi', A, z, e1, f, wk, wd, wv⟩ | ⟨n, _⟩
  rotate_left
  · exact absurd ⟨lo, hi, hw⟩ n
  have eW := isW_u hc hw z
  have hA := f.sh h
  have n23 : ¬ wsc 23 := by unfold wsc; omega
  have sA := FS_now hA
  obtain ⟨B, b1, b2, b3⟩ := K_fb sA (fun r t => v (oS j + 4 + 6 * elt kI (v (oS j + 2)) (fun p => wnP v (oS j) lo' hi' p 3) r + t)) (fun _ => 0)
  have fB0 : FC (fdc 9 10 11) A B := b2.fc (fun a k z => Or.inl z.1)
  have fB : FC ptP M B := (f.wk (fun _ z => Or.inl z)).tr (fB0.wk (fun _ z => Or.inr z))
  have wB := o5.fc fB ptP_63 st.1 st.2.1 st.2.2
  have m23 : ¬ ptP 23 := fun z => (ptP_63 23 z).2 rfl
  have hB := fB.sh h
  have o4' : gR B (15 + 2 * j) 1 = some r := by
    rw [z_fR (h_is h hj)] at o4
    rw [(fB.2.2.2.1 _ _ (by unfold ptP wsc fdc; omega)).2.2]
    injection o4
  obtain ⟨cc', M1, y1, y2, y3, y4, y5⟩ := K_poL (x1 := nI j) hj hB o4' wB ⟨fB.st m23 st.1, fB.st m23 st.2.1, fB.st m23 st.2.2⟩ sw hc (isW_h hc z) (v (oS j + 3)) 0 (by omega) 0 rfl B (FC.rf _ B) (WR.fc fB0 (fun a z => by unfold wsc; unfold fdc at z; omega) ⟨wk, wd, wv⟩) b3 none none none
  have := hitN_eq _ (hitN_w eW _ y1) hn
  subst this
  have ew : (fun p => wnP v (oS j) lo' hi' p 3) = fun p => wnP v (oS j) lo hi p 3 := funext (wnP_w eW)
  unfold PQ at y5
  rw [ew] at y2 y5
  refine ⟨M1, ?_, fB.tr y3, y4, ?_⟩
  · rw [C_X11_points]
    simp only [c_sel h, Option.bind_some, K_sA h hs hj e, z_rR]
    rw [if_neg (by simp)]
    simp only [o2, Option.bind_some, e1, z_rI]
    rw [if_neg (show ¬ nI 1 = 0 by decide +kernel)]
    simp only [c_now hA (show (1, 0, 2) ∈ q_crs by decide), s_now hA (show (2, 5, 9) ∈ q_crs by decide), Option.bind_some, z_sel sA.1, b1, z_rV]
    exact y2
  · have cm : cnt (fun p => wnP v (oS j) lo hi p 3) (v (oS j + 2)) ≤ v (oS j + 2) := cnt_m _ _
    exact FN_fd (b := 2) (by omega) (by omega) y5 (fun r hr => (sw.2.2.2.2.1 _ (elt_ok (kI_o _) hr).1).1)
