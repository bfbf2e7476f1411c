theorem K_rdN {M0 : q_M} {f wh fa Z n wy : Nat} {r ps sz : Nat} {v : Nat → Nat} {ic o : Nat} {g : Nat → Nat} (h0 : SH M0) (s0 : FS M0 f wh fa Z) (ap : sfa f wh fa) (w0 : RWx M0 r ps sz v o) (st : ST M0 r ∧ ST M0 ps ∧ ST M0 sz) (sw : SW v ic o) (hc : okI v ic) (sa0 : SA M0 g wy) (hn : 1 ≤ n ∧ n ≤ 20) (hZ : n ≤ Z) : ∃ t rd M1, rdF v o g wy n t rd ∧ q_CL 34 [.inr (.inr (some 39)), .inr (.inr (some r)), .inl (nI n), .inr (.inr (some f))] M0 = some (none, M1) ∧ FC (nrP f wh fa) M0 M1 ∧ FS M1 f wh fa Z ∧ SA M1 g wy ∧ BF M1 v o g wy (v (o + 3)) ∧ RD M1 rd (v (o + 3)) ∧ NQ M1 f wh fa v o g wy (fun i => onR v o rd i (v (o + 3))) n t := by
  have s1 := sw.1
  have s2 := sw.2.1
  have oR : Ord (kL v o g wy) (v (o + 2)) := kL_o fun p q hp hq => (sw.2.2.2.2.2 p q hp hq).1
  have hg : ∀ a, a < 3 → g a < 2 ^ 20 := fun a ha => (sa0.1 a ha).2
  have hm : n = if Z < n then Z else n := by rw [if_neg (by omega)]
  have P63 := nrP_63 s0 h0
  have bb : ∀ k, k < v (o + 3) → bxF v o g wy k < 2 ^ 62 := fun k hk => by have := (bxF_b sw hc hg (wy := wy) hk).2; omega
  have key : ∀ m t, t + m = v (o + 3) → ∀ rd A (d5 : Option q_V), rdR v o g wy n t rd → FC (nrP f wh fa) M0 A → FS A f wh fa Z → SA A g wy → BF A v o g wy (v (o + 3)) → RD A rd (v (o + 3)) → NQ A f wh fa v o g wy (fun i => onR v o rd i (v (o + 3))) n t → ∃ t' rd' M1, rdF v o g wy n t' rd' ∧ q_RL T_X4_readNearest (12, [some (.inr (.inr (some 39))), some (.inr (.inr (some r))), some (.inl (nI n)), some (.inr (.inr (some f))), some (.inl (nI t)), d5], [], A) = some (none, M1) ∧ FC (nrP f wh fa) M0 M1 ∧ FS M1 f wh fa Z ∧ SA M1 g wy ∧ BF M1 v o g wy (v (o + 3)) ∧ RD M1 rd' (v (o + 3)) ∧ NQ M1 f wh fa v o g wy (fun i => onR v o rd' i (v (o + 3))) n t' := by
    intro m
    induction m with
    | zero =>
      intro t ht rd A d5 rr fA sA aA bA rA qA
      have w := w0.fc fA P63 st.1 st.2.1 st.2.2
      refine ⟨t, rd, A, ⟨rr, Or.inl (by omega)⟩, ?_, fA, sA, aA, bA, rA, qA⟩
      rw [E_X4_readNearest_12]
      simp only [Option.bind_some, w.f3]
      rw [if_pos (nI_le (by omega) (by omega))]
    | succ m ih =>
      intro t ht rd A d5 rr fA sA aA bA rA qA
      have w := w0.fc fA P63 st.1 st.2.1 st.2.2
      have hA := fA.sh h0
      have iA := sA.is
      obtain ⟨b, b1, b2⟩ := K_next hA bA rA (by omega) bb
      obtain ⟨b, rfl⟩ := Fst_nz b1 (by
        have := cnt_n rd (v (o + 3))
        have := rdR_c rr
        omega)
      have hb := b1.1
      have ub : rd b = false := by have := b1.2.1; simpa using this
      have eb : oI (some b) = nI b := rfl
      rw [eb] at b2
      have cont : (∀ d, nth v o g wy (fun i => onR v o rd i (v (o + 3))) n (some d) → bxF v o g wy b ≤ d) → ∃ t' rd' M1, rdF v o g wy n t' rd' ∧ (q_rV (q_CL 36 [.inr (.inr (some 39)), .inr (.inr (some r)), .inl (nI b), .inl (nI n), .inr (.inr (some f))] A)).bind (fun M2 => q_RL T_X4_readNearest (12, [some (.inr (.inr (some 39))), some (.inr (.inr (some r))), some (.inl (nI n)), some (.inr (.inr (some f))), some (.inl (nI (t + 1))), some (.inl (nI b))], [], M2)) = some (none, M1) ∧ FC (nrP f wh fa) M0 M1 ∧ FS M1 f wh fa Z ∧ SA M1 g wy ∧ BF M1 v o g wy (v (o + 3)) ∧ RD M1 rd' (v (o + 3)) ∧ NQ M1 f wh fa v o g wy (fun i => onR v o rd' i (v (o + 3))) n t' := fun hd => by
        obtain ⟨B, u1, u2, u3, u4, u5, u6, u7⟩ := K_rdPg hA sA ap w ⟨fA.st (fun z => (P63 23 z).2 rfl) st.1, fA.st (fun z => (P63 23 z).2 rfl) st.2.1, fA.st (fun z => (P63 23 z).2 rfl) st.2.2⟩ sw hc aA qA rA (by omega) hm hb ub
        obtain ⟨t', rd', M1, y1, y2, y3⟩ := ih (t + 1) (by omega) _ B (some (.inl (nI b))) ⟨rd, b, rr, b1, hd, rfl⟩ (fA.tr u2) u3 u4 (fun k hk => (u5 k).trans (bA k hk)) u6 u7
        refine ⟨t', rd', M1, y1, ?_, y3⟩
        rw [u1]
        simp only [z_rV, Option.bind_some]
        exact y2
      rw [E_X4_readNearest_12]
      simp only [Option.bind_some, w.f3]
      rw [if_neg (nI_ge (by omega) (by omega))]
      simp only [s39_sel hA, Option.bind_some, b2, z_rI]
      rw [if_neg (nI_pos (by omega))]
      have q1 := qA.1
      simp only [z_fI iA, q1, Option.bind_some, nI_1]
      by_cases c : cnt (fun i => onR v o rd i (v (o + 3))) (v (o + 2)) < n
      · rw [if_pos c, if_pos (nI_lt c (by omega))]
        exact cont (fun d hd => by have := hd.1; omega)
      · rw [if_neg c, if_neg (nI_nlt (Nat.le_refl _) (by omega))]
        obtain ⟨e1, e2, e3⟩ := elt_ok oR (E := fun i => onR v o rd i (v (o + 3))) (r := n - 1) (by omega)
        have nt : nth v o g wy (fun i => onR v o rd i (v (o + 3))) n (some (dsP v o g wy (elt (kL v o g wy) (v (o + 2)) (fun i => onR v o rd i (v (o + 3))) (n - 1)))) := ⟨by omega, _, e1, e2, by omega, rfl⟩
        have q3 := (qA.2.2 (n - 1) (by rw [if_neg c]; omega)).1
        have hd62 := dsP_b (v := v) (o := o) (g := g) (wy := wy) (fun a ha => sw.pt hc e1 ha) hg
        have bb1 := bb b hb
        simp only [f39 hA (show (39, 0, 40) ∈ q_crs by decide), Option.bind_some, a40 hA (show b < 300 by omega), bA b hb, z_fR iA, sA.2.2.1, pk_sub hn.1, z_aL sA.2.2.2.2.2.1 sA.2.2.2.2.2.2.1 (show n - 1 < Z by omega) (show Z ≤ 2147483647 by have := sA.2.2.2.2.2.2.2.2.2; omega), q3, lg_cmp_le, pk_lLE (Nat.lt_trans bb1 (by decide : 2 ^ 62 < 2 ^ 63)) (Nat.lt_trans hd62 (by decide : 2 ^ 42 < 2 ^ 63))]
        by_cases c2 : bxF v o g wy b ≤ dsP v o g wy (elt (kL v o g wy) (v (o + 2)) (fun i => onR v o rd i (v (o + 3))) (n - 1))
        · rw [if_pos c2]
          exact cont (fun d hd => by
            have := nth_eq oR nt hd
            injection this with this
            rw [← this]; exact c2)
        · rw [if_neg c2]
          exact ⟨t, rd, A, ⟨rr, Or.inr ⟨b, _, b1, nt, by omega⟩⟩, rfl, fA, sA, aA, bA, rA, qA⟩
  obtain ⟨A, a1, a2, a3, a4, a5⟩ := K_meas h0 w0 st sw hc sa0
  have hA := a2.sh h0
  have sA : FS A f wh fa Z := s0.fc a2 ((a2.2.2.2.1 f 0 (fun z => ap f z (Or.inl rfl))).2.2) ((a2.2.2.2.1 f 1 (fun z => ap f z (Or.inl rfl))).2.2)
  obtain ⟨B, c1, c2, c3⟩ := K_fb sA (fun r t => v (o + 4 + 6 * elt (kL v o g wy) (v (o + 2)) (fun i => onR v o (fun _ => false) i (v (o + 3))) r + t)) (fun r => dsP v o g wy (elt (kL v o g wy) (v (o + 2)) (fun i => onR v o (fun _ => false) i (v (o + 3))) r))
  have fB : FC (fdc f wh fa) A B := c2.fc (fun a k z => Or.inl z.1)
  have sB : FS B f wh fa Z := sA.fc fB (c2.gr f 0) (c2.gr f 1)
  have n39 : ¬ fdc f wh fa 39 := ap 39 (Or.inl rfl)
  have n40 : ¬ fdc f wh fa 40 := ap 40 (Or.inr (Or.inl rfl))
  have n41 : ¬ fdc f wh fa 41 := ap 41 (Or.inr (Or.inr rfl))
  have on0 : ∀ P i, onR v o (fun _ => false) i P = false := by
    intro P
    induction P with
    | zero => intro i; rfl
    | succ P ih => intro i; unfold onR; rw [ih i]; simp
  have cz : cnt (fun i => onR v o (fun _ => false) i (v (o + 3))) (v (o + 2)) = 0 := by
    rw [← cnt_no (v (o + 2))]
    exact cnt_cg _ (fun i _ => on0 _ i)
  obtain ⟨t, rd, M1, y1, y2, y3⟩ := key (v (o + 3)) 0 (by omega) (fun _ => false) B none rfl ((a2.wk (fun _ z => Or.inl z)).tr (fB.wk (fun _ z => Or.inr z))) sB (a3.fc fB n39) (fun k hk => ((fB.2.2.2.1 40 k n40).2.1).trans (a4 k hk)) (fun k hk => ((fB.2.2.2.1 41 k n41).1).trans (a5 k hk)) (by
    unfold NQ
    rw [cz, if_pos (by omega)]
    exact c3)
  refine ⟨t, rd, M1, y1, ?_, y3⟩
  rw [C_X4_readNearest]
  simp only [s39_sel h0, Option.bind_some, a1, z_rV, z_sel sA.1, c1]
  exact y2
/-! boxes hold their points -/
theorem lw_le {v : Nat → Nat} {o f a : Nat} : ∀ n y, y < n → lwP v o f a n ≤ v (o + 4 + 6 * (f + y) + (1 + a)) ∧ v (o + 4 + 6 * (f + y) + (1 + a)) ≤ hwP v o f a n
  | 0, y, h => by omega
  | n + 1, y, h => by
    unfold lwP hwP
    by_cases e : y = n
    · subst e
      constructor
      · split <;> omega
      · split <;> omega
    · have := lw_le (v := v) (o := o) (f := f) (a := a) n y (by omega)
      constructor
      · split <;> omega
      · split <;> omega
theorem dst_m {wy a b c a' b' c' : Nat} (ha : a ≤ a') (hb : b ≤ b') (hc : c ≤ c') : dst wy a b c ≤ dst wy a' b' c' := by
  unfold dst
  split
  · omega
  · split
    · exact Nat.add_le_add (Nat.add_le_add (Nat.mul_le_mul ha ha) (Nat.mul_le_mul hb hb)) (Nat.mul_le_mul hc hc)
    · repeat' split
      all_goals omega
theorem bxF_le {v : Nat → Nat} {o : Nat} {g : Nat → Nat} {wy k i : Nat} (hi : psm v o k ≤ i ∧ i < psm v o (k + 1)) : bxF v o g wy k ≤ dsP v o g wy i := by
  have ep : psm v o (k + 1) = psm v o k + v (o + 1804 + k) := rfl
  have q : ∀ a, ouv (g a) (lwP v o (psm v o k) a (v (o + 1804 + k))) (hwP v o (psm v o k) a (v (o + 1804 + k))) ≤ ad (v (o + 4 + 6 * i + (1 + a))) (g a) := fun a => by
    have := lw_le (v := v) (o := o) (f := psm v o k) (a := a) (v (o + 1804 + k)) (i - psm v o k) (by omega)
    rw [show psm v o k + (i - psm v o k) = i by omega] at this
    unfold ouv ad
    repeat' split
    all_goals omega
  exact dst_m (q 0) (q 1) (q 2)
/-- what was read is enough -/
theorem near_all {v : Nat → Nat} {ic o : Nat} {g : Nat → Nat} {wy n t : Nat} {rd : Nat → Bool} (sw : SW v ic o) (h : rdF v o g wy n t rd) : (if cnt (fun i => onR v o rd i (v (o + 3))) (v (o + 2)) < n then cnt (fun i => onR v o rd i (v (o + 3))) (v (o + 2)) else n) = min (v (o + 2)) n ∧ ∀ r, r < min (v (o + 2)) n → elt (kL v o g wy) (v (o + 2)) (fun i => onR v o rd i (v (o + 3))) r = elt (kL v o g wy) (v (o + 2)) (fun _ => true) r := by
  have oR : Ord (kL v o g wy) (v (o + 2)) := kL_o fun p q hp hq => (sw.2.2.2.2.2 p q hp hq).1
  obtain ⟨h1, h2⟩ := h
  rcases h2 with rfl | ⟨b, d, b1, b2, b3⟩
  · have al : ∀ k, k < v (o + 3) → rd k = true := fun k hk => by
      apply Classical.byContradiction
      intro z
      have z' : rd k = false := by simpa using z
      have := cnt_lt (E := rd) (F := fun _ => true) (j := k) (v (o + 3)) (fun _ _ _ => rfl) hk rfl z'
      rw [rdR_c h1, cnt_all] at this
      omega
    have e : ∀ i, i < v (o + 2) → (fun i => onR v o rd i (v (o + 3))) i = (fun _ => true) i := fun i hi => by
      obtain ⟨g', g1, g2⟩ := pg_ex (v := v) (o := o) (i := i) (v (o + 3)) (by rw [sw.2.2.1]; exact hi)
      show onR v o rd i (v (o + 3)) = true
      rw [onR_at g2, al g' g1]
      simp [g1]
    rw [cnt_cg _ e, cnt_all]
    exact ⟨by split <;> omega, fun r _ => elt_cgE e r⟩
  · obtain ⟨n1, i0, i1, i2, i3, i4⟩ := b2
    have cm : cnt (fun i => onR v o rd i (v (o + 3))) (v (o + 2)) ≤ v (o + 2) := cnt_m _ _
    refine ⟨by rw [if_neg (by omega)]; omega, fun r hr => (elt_fst oR n1 (fun i j hi hj ei ej hk => ?_) (by omega)).symm⟩
    have li : dsP v o g wy i ≤ d := by
      by_cases e : i = i0
      · rw [e, i4]; exact Nat.le_refl _
      · rcases oR.2.1 i i0 hi i1 e with k | k
        · have := kL_t.mp k
          omega
        · have := rk_lt oR (E := fun i => onR v o rd i (v (o + 3))) i1 hi i2 k
          omega
    obtain ⟨g', g1, g2⟩ := pg_ex (v := v) (o := o) (i := j) (v (o + 3)) (by rw [sw.2.2.1]; exact hj)
    have eg : rd g' = false := by
      have e2 : onR v o rd j (v (o + 3)) = false := ej
      rw [onR_at g2] at e2
      simpa [g1] using e2
    have lb : bxF v o g wy b ≤ bxF v o g wy g' := by
      by_cases e : g' = b
      · rw [e]; exact Nat.le_refl _
      · have := b1.2.2 g' g1 (show (!rd g') = true by rw [eg]; rfl) e
        unfold kB at this
        rw [decide_eq_true_eq] at this
        omega
    have := bxF_le (g := g) (wy := wy) g2
    exact kL_t.mpr (Or.inl (by omega))
/-- reading goes one way -/
theorem Fst_eq {K : Nat → Nat → Bool} {m n : Nat} (o : Ord K m) (hn : n ≤ m) {E : Nat → Bool} {a b : Nat} (f : Fst K E n (some a)) (f2 : Fst K E n (some b)) : a = b := by
  apply Classical.byContradiction
  intro e
  have x := f.2.2 b f2.1 f2.2.1 (fun z => e z.symm)
  have y := f2.2.2 a f.1 f.2.1 e
  have a1 := f.1
  have b1 := f2.1
  have := o.2.2 a b a (by omega) (by omega) (by omega) x y
  rw [o.1 a (by omega)] at this
  cases this
theorem rdR_eq {v : Nat → Nat} {o : Nat} {g : Nat → Nat} {wy n : Nat} : ∀ t {rd rd2}, rdR v o g wy n t rd → rdR v o g wy n t rd2 → rd = rd2
  | 0, rd, rd2, h, h2 => by
    have a : rd = fun _ => false := h
    have b : rd2 = fun _ => false := h2
    rw [a, b]
  | t + 1, rd, rd2, h, h2 => by
    obtain ⟨r1, b1, x1, x2, x3, x4⟩ := h
    obtain ⟨r2, b2, y1, y2, y3, y4⟩ := h2
    have e := rdR_eq t x1 y1
    subst e
    have := Fst_eq (kB_o (m := v (o + 3))) (Nat.le_refl _) x2 y2
    rw [x4, y4, this]
theorem rdR_dn {v : Nat → Nat} {o : Nat} {g : Nat → Nat} {wy n : Nat} : ∀ t {rd} k, rdR v o g wy n t rd → k < t → ∃ rd' b, rdR v o g wy n k rd' ∧ Fst (kB v o g wy) (fun k => !rd' k) (v (o + 3)) (some b) ∧ ∀ d, nth v o g wy (fun i => onR v o rd' i (v (o + 3))) n (some d) → bxF v o g wy b ≤ d
  | 0, _, k, _, hk => by omega
  | t + 1, rd, k, h, hk => by
    obtain ⟨r1, b1, x1, x2, x3, x4⟩ := h
    by_cases e : k = t
    · subst e; exact ⟨r1, b1, x1, x2, x3⟩
    · exact rdR_dn t k x1 (by omega)
theorem rdF_nl {v : Nat → Nat} {o : Nat} {g : Nat → Nat} {wy n t t2 : Nat} {rd rd2 : Nat → Bool} (h : rdF v o g wy n t rd) (h2 : rdF v o g wy n t2 rd2) : ¬ t < t2 := fun lt => by
  obtain ⟨r1, b1, x1, x2, x3⟩ := rdR_dn t2 t h2.1 lt
  have e := rdR_eq t x1 h.1
  subst e
  rcases h.2 with e | ⟨b, d, y1, y2, y3⟩
  · have := rdR_c h2.1
    have := cnt_m rd2 (v (o + 3))
    omega
  · have := Fst_eq (kB_o (m := v (o + 3))) (Nat.le_refl _) x2 y1
    subst this
    have := x3 d y2
    omega
theorem rdF_eq {v : Nat → Nat} {o : Nat} {g : Nat → Nat} {wy n t t2 : Nat} {rd rd2 : Nat → Bool} (h : rdF v o g wy n t rd) (h2 : rdF v o g wy n t2 rd2) : t = t2 ∧ rd = rd2 := by
  have e : t = t2 := by have := rdF_nl h h2; have := rdF_nl h2 h; omega
  subst e
  exact ⟨rfl, rdR_eq t h.1 h2.1⟩
