/-! ===== THE CLASS: check ===== -/
theorem K_tells {M : q_M} (h : SH M) {bt : Nat → Int32} {N k : Nat} (y : YI M bt N) (hk : 9 * k + 9 ≤ N) : q_CL 131 [.inr (.inr (some 1)), .inl (nI k)] M = some (some (.inr (.inl (rdB bt k 8))), M) := by
  obtain ⟨y1, y2, y3⟩ := y
  rw [C_X11_tellsFar]
  have key : ∀ m i, i + m = 8 → ∀ d3, q_RL T_X11_tellsFar (5, [some (.inr (.inr (some 1))), some (.inl (nI k)), some (.inr (.inl (rdB bt k i))), d3, some (.inl (nI (i + 1)))], [], M) = some (some (.inr (.inl (rdB bt k 8))), M) := by
    intro m
    induction m with
    | zero =>
      intro i hi d3
      rw [E_X11_tellsFar_5, if_pos (nI_le (by omega) (by omega)), show i = 8 by omega]
    | succ m ih =>
      intro i hi d3
      rw [E_X11_tellsFar_5, if_neg (nI_ge (by omega) (by omega))]
      simp only [c_now h (show (1, 2, 24) ∈ q_crs by decide), Option.bind_some, pk_mul, nI_add, a24 h (show k * 9 + (i + 1) < 2700 by omega), y3 (k * 9 + (i + 1)) (by omega), nI_1]
      rw [show k * 9 + (i + 1) = 9 * k + 1 + i by omega]
      exact ih (i + 1) (by omega) none
  exact key 8 0 (by omega) none
theorem K_ff {M : q_M} (h : SH M) {bt : Nat → Int32} {N P : Nat} (y : YI M bt N) (hN : N = 9 * P) (hP : P ≤ 300) {f : Nat → Nat} (bf : ∀ k, k < P → gL M 40 k = lN (f k)) : (∃ k, k < P ∧ ¬ okW bt f k ∧ (∀ l, l < k → okW bt f l) ∧ q_CL 130 [.inr (.inr (some 1)), .inl (nI P)] M = some (some (.inl (nI k)), M)) ∨ ((∀ l, l < P → okW bt f l) ∧ q_CL 130 [.inr (.inr (some 1)), .inl (nI P)] M = some (some (.inl (-1)), M)) := by
  rw [C_X11_firstFalsePage]
  have key : ∀ m k, k + m = P → (∀ l, l < k → okW bt f l) → ∀ d3, (∃ k', k' < P ∧ ¬ okW bt f k' ∧ (∀ l, l < k' → okW bt f l) ∧ q_RL T_X11_firstFalsePage (2, [some (.inr (.inr (some 1))), some (.inl (nI P)), some (.inl (nI k)), d3], [], M) = some (some (.inl (nI k')), M)) ∨ ((∀ l, l < P → okW bt f l) ∧ q_RL T_X11_firstFalsePage (2, [some (.inr (.inr (some 1))), some (.inl (nI P)), some (.inl (nI k)), d3], [], M) = some (some (.inl (-1)), M)) := by
    intro m
    induction m with
    | zero =>
      intro k hk al d3
      right
      refine ⟨fun l hl => al l (by omega), ?_⟩
      rw [E_X11_firstFalsePage_2, if_pos (nI_le (by omega) (by omega))]
    | succ m ih =>
      intro k hk al d3
      have tl := K_tells h y (k := k) (by omega)
      have b := bf k (by omega)
      have go : ∀ x3, okW bt f k → (∃ k', k' < P ∧ ¬ okW bt f k' ∧ (∀ l, l < k' → okW bt f l) ∧ q_RL T_X11_firstFalsePage (2, [some (.inr (.inr (some 1))), some (.inl (nI P)), some (.inl (nI (k + 1))), some (.inl x3)], [], M) = some (some (.inl (nI k')), M)) ∨ ((∀ l, l < P → okW bt f l) ∧ q_RL T_X11_firstFalsePage (2, [some (.inr (.inr (some 1))), some (.inl (nI P)), some (.inl (nI (k + 1))), some (.inl x3)], [], M) = some (some (.inl (-1)), M)) := fun x3 ok => ih (k + 1) (by omega) (fun l hl => by
        by_cases e : l = k
        · rw [e]; exact ok
        · exact al l (by omega)) _
      rw [E_X11_firstFalsePage_2, if_neg (nI_ge (by omega) (by omega))]
      simp only [c_now h (show (1, 2, 24) ∈ q_crs by decide), Option.bind_some, pk_mul, a24 h (show k * 9 < 2700 by omega), y.2.2 (k * 9) (by omega), c_sel h, tl, z_rL, c_now h (show (1, 5, 39) ∈ q_crs by decide), f39 h (show (39, 0, 40) ∈ q_crs by decide), a40 h (show k < 300 by omega), b, lg_cmp_eq, nI_1]
      rw [show k * 9 = 9 * k by omega]
      by_cases c0 : bt (9 * k) = 0
      · rw [if_pos c0]
        by_cases c1 : rdB bt k 8 = lN (f k)
        · rw [if_pos c1]
          exact go _ ⟨Or.inl c0, c1⟩
        · rw [if_neg c1]
          exact Or.inl ⟨k, by omega, fun z => c1 z.2, al, rfl⟩
      · rw [if_neg c0]
        by_cases c2 : bt (9 * k) = nI 1
        · rw [if_pos c2]
          by_cases c1 : rdB bt k 8 = lN (f k)
          · rw [if_pos c1]
            exact go _ ⟨Or.inr c2, c1⟩
          · rw [if_neg c1]
            exact Or.inl ⟨k, by omega, fun z => c1 z.2, al, rfl⟩
        · rw [if_neg c2]
          exact Or.inl ⟨k, by omega, fun z => by rcases z.1 with z | z; exact c0 z; exact c2 z, al, rfl⟩
  exact key P 0 (by omega) (fun l hl => by omega) none
def mkL (bt : Nat → Int32) (k x : Nat) : Bool := decide (x < k) && mkW bt x
theorem mkL_t {bt : Nat → Int32} {k : Nat} (h : mkW bt k = true) : (fun x => if x = k then true else mkL bt k x) = mkL bt (k + 1) := by
  funext x
  unfold mkL
  by_cases e : x = k
  · simp only [if_pos e]; rw [e, h]; simp
  · simp only [if_neg e]
    have : decide (x < k) = decide (x < k + 1) := decide_eq_decide.mpr (by omega)
    rw [this]
theorem mkL_f {bt : Nat → Int32} {k : Nat} (h : mkW bt k = false) : mkL bt k = mkL bt (k + 1) := by
  funext x
  unfold mkL
  by_cases e : x = k
  · rw [e, h]; simp
  · have : decide (x < k) = decide (x < k + 1) := decide_eq_decide.mpr (by omega)
    rw [this]
theorem K_fm {M0 : q_M} {r ps sz : Nat} {v : Nat → Nat} {ic o : Nat} {g : Nat → Nat} {wy n N : Nat} {bt : Nat → Int32} (h0 : SH M0) (w0 : RWx M0 r ps sz v o) (st : ST M0 r ∧ ST M0 ps ∧ ST M0 sz) (sw : SW v ic o) (hc : okI v ic) (sa0 : SA M0 g wy) (bf0 : BF M0 v o g wy (v (o + 3))) (rr0 : RD M0 (fun _ => false) (v (o + 3))) (y0 : YI M0 bt N) (hN : N = 9 * v (o + 3)) (hn : 1 ≤ n ∧ n ≤ 20) (ok : ∀ l, l < v (o + 3) → okW bt (bxF v o g wy) l) : ∃ x M1, q_CL 132 [.inr (.inr (some 1)), .inr (.inr (some r)), .inl (nI n)] M0 = some (some (.inl x), M1) ∧ FC (nrP 45 46 47) M0 M1 ∧ ckA v o g wy n bt x := by
  have s1 := sw.1
  have s2 := sw.2.1
  have oR : Ord (kL v o g wy) (v (o + 2)) := kL_o fun p q hp hq => (sw.2.2.2.2.2 p q hp hq).1
  have hg : ∀ a, a < 3 → g a < 2 ^ 20 := fun a ha => (sa0.1 a ha).2
  have s0 := FS_spare h0
  have ap := ap_spare
  have P63 := nrP_63 s0 h0
  have n23 : ¬ nrP 45 46 47 23 := fun z => (P63 23 z).2 rfl
  have hm : n = if 20 < n then 20 else n := by rw [if_neg (by omega)]
  have bb : ∀ k, k < v (o + 3) → bxF v o g wy k < 2 ^ 62 := fun k hk => by have := (bxF_b sw hc hg (wy := wy) hk).2; omega
  have yf : ∀ A, FC (nrP 45 46 47) M0 A → YI A bt N := fun A f => YI.fc f.fb h0.2.2.2 ⟨by unfold nrP s39 fdc; omega, by unfold nrP s39 fdc; omega⟩ y0
  -- the second loop
  have lp2 : ∀ A, FC (nrP 45 46 47) M0 A → BF A v o g wy (v (o + 3)) → FS A 45 46 47 20 → NQ A 45 46 47 v o g wy (fun i => onR v o (mkW bt) i (v (o + 3))) n (cnt (mkW bt) 0) ∨ True → ∀ (en : Bool) d, nth v o g wy (fun i => onR v o (mkW bt) i (v (o + 3))) n d → (en = false → d = none) → (en = true → ∃ dd, d = some dd ∧ dd < 2 ^ 62 ∧ gL A 47 (n - 1) = lN dd) → ∀ m k, k + m = v (o + 3) → (∀ l, l < k → ¬ (mkW bt l = false ∧ ∀ dd, d = some dd → bxF v o g wy l ≤ dd)) → ∃ x, q_RL T_X11_firstMissedPage (70, [some (.inr (.inr (some 1))), some (.inr (.inr (some r))), some (.inl (nI n)), some (.inl (nI (bN en))), some (.inl (nI k))], [], A) = some (some (.inl x), A) ∧ ((∃ k, k < v (o + 3) ∧ (mkW bt k = false ∧ ∀ dd, d = some dd → bxF v o g wy k ≤ dd) ∧ (∀ l, l < k → ¬ (mkW bt l = false ∧ ∀ dd, d = some dd → bxF v o g wy l ≤ dd)) ∧ x = nI k) ∨ ((∀ l, l < v (o + 3) → ¬ (mkW bt l = false ∧ ∀ dd, d = some dd → bxF v o g wy l ≤ dd)) ∧ x = -1)) := by
    intro A fA bA sA _ en d nd e0 e1 m
    have hA := fA.sh h0
    have w := w0.fc fA P63 st.1 st.2.1 st.2.2
    have yA := yf A fA
    induction m with
    | zero =>
      intro k hk al
      refine ⟨-1, ?_, Or.inr ⟨fun l hl => al l (by omega), rfl⟩⟩
      rw [E_X11_firstMissedPage_70]
      simp only [Option.bind_some, w.f3]
      rw [if_pos (nI_le (by omega) (by omega))]
    | succ m ih =>
      intro k hk al
      have hk3 : k < v (o + 3) := by omega
      have okk := ok k hk3
      rw [E_X11_firstMissedPage_70]
      simp only [Option.bind_some, w.f3]
      rw [if_neg (nI_ge (by omega) (by omega))]
      simp only [c_now hA (show (1, 2, 24) ∈ q_crs by decide), Option.bind_some, pk_mul, a24 hA (show k * 9 < 2700 by omega), yA.2.2 (k * 9) (by omega), nI_1]
      rw [show k * 9 = 9 * k by omega]
      have nx : ¬ (mkW bt k = false ∧ ∀ dd, d = some dd → bxF v o g wy k ≤ dd) → ∃ x, q_RL T_X11_firstMissedPage (70, [some (.inr (.inr (some 1))), some (.inr (.inr (some r))), some (.inl (nI n)), some (.inl (nI (bN en))), some (.inl (nI (k + 1)))], [], A) = some (some (.inl x), A) ∧ ((∃ k, k < v (o + 3) ∧ (mkW bt k = false ∧ ∀ dd, d = some dd → bxF v o g wy k ≤ dd) ∧ (∀ l, l < k → ¬ (mkW bt l = false ∧ ∀ dd, d = some dd → bxF v o g wy l ≤ dd)) ∧ x = nI k) ∨ ((∀ l, l < v (o + 3) → ¬ (mkW bt l = false ∧ ∀ dd, d = some dd → bxF v o g wy l ≤ dd)) ∧ x = -1)) := fun nn => ih (k + 1) (by omega) (fun l hl => by
        by_cases e : l = k
        · rw [e]; exact nn
        · exact al l (by omega))
      by_cases c0 : bt (9 * k) = 0
      · have mf : mkW bt k = false := by unfold mkW; rw [c0]; decide +kernel
        rw [if_pos c0]
        cases en with
        | false =>
          rw [if_pos (show nI (bN false) = 0 by decide +kernel)]
          exact ⟨nI k, rfl, Or.inl ⟨k, hk3, ⟨mf, fun dd z => by rw [e0 rfl] at z; cases z⟩, al, rfl⟩⟩
        | true =>
          rw [if_neg (show ¬ nI (bN true) = 0 by decide +kernel)]
          obtain ⟨dd, hd, d62, gd⟩ := e1 rfl
          have b62 := bb k hk3
          simp only [c_now hA (show (1, 5, 39) ∈ q_crs by decide), f39 hA (show (39, 0, 40) ∈ q_crs by decide), Option.bind_some, a40 hA (show k < 300 by omega), bA k hk3, c_now hA (show (1, 7, 45) ∈ q_crs by decide), z_fR sA.is, sA.2.2.1, pk_sub hn.1, z_aL sA.2.2.2.2.2.1 sA.2.2.2.2.2.2.1 (show n - 1 < 20 by omega) (by decide), gd, lg_cmp_gt, pk_lLT (Nat.lt_trans d62 (by decide : 2 ^ 62 < 2 ^ 63)) (Nat.lt_trans b62 (by decide : 2 ^ 62 < 2 ^ 63))]
          by_cases c1 : dd < bxF v o g wy k
          · rw [if_pos c1]
            exact nx (fun z => by have := z.2 dd hd; omega)
          · rw [if_neg c1]
            exact ⟨nI k, rfl, Or.inl ⟨k, hk3, ⟨mf, fun d2 z => by rw [hd] at z; injection z with z; omega⟩, al, rfl⟩⟩
      · rw [if_neg c0]
        refine nx (fun z => ?_)
        rcases okk.1 with z2 | z2
        · exact c0 z2
        · have : mkW bt k = true := by unfold mkW; rw [z2]; decide +kernel
          rw [this] at z; cases z.1
  -- the first loop
  have lp1 : ∀ m k, k + m = v (o + 3) → ∀ t A, FC (nrP 45 46 47) M0 A → SA A g wy → BF A v o g wy (v (o + 3)) → RD A (mkL bt k) (v (o + 3)) → FS A 45 46 47 20 → NQ A 45 46 47 v o g wy (fun i => onR v o (mkL bt k) i (v (o + 3))) n t → ∃ x M1, q_RL T_X11_firstMissedPage (9, [some (.inr (.inr (some 1))), some (.inr (.inr (some r))), some (.inl (nI n)), some (.inl (nI k)), none], [], A) = some (some (.inl x), M1) ∧ FC (nrP 45 46 47) M0 M1 ∧ ckA v o g wy n bt x := by
    intro m
    induction m with
    | zero =>
      intro k hk t A fA aA bA rA sA qA
      have hA := fA.sh h0
      have w := w0.fc fA P63 st.1 st.2.1 st.2.2
      have ek : k = v (o + 3) := by omega
      subst ek
      have q2 : NQ A 45 46 47 v o g wy (fun i => onR v o (mkW bt) i (v (o + 3))) n t := qA.cg (fun i hi => by
        obtain ⟨g', g1, g2⟩ := pg_ex (v := v) (o := o) (i := i) (v (o + 3)) (by rw [sw.2.2.1]; exact hi)
        show onR v o (mkW bt) i (v (o + 3)) = onR v o (mkL bt (v (o + 3))) i (v (o + 3))
        rw [onR_at g2, onR_at g2]
        unfold mkL
        simp [g1])
      have qn : gI A 45 2 = nI (if cnt (fun i => onR v o (mkW bt) i (v (o + 3))) (v (o + 2)) < n then cnt (fun i => onR v o (mkW bt) i (v (o + 3))) (v (o + 2)) else n) := q2.1
      by_cases c : cnt (fun i => onR v o (mkW bt) i (v (o + 3))) (v (o + 2)) < n
      · have nd : nth v o g wy (fun i => onR v o (mkW bt) i (v (o + 3))) n none := c
        obtain ⟨x, u1, u2⟩ := lp2 A fA bA sA (Or.inr trivial) false none nd (fun _ => rfl) (fun z => by cases z) (v (o + 3)) 0 (by omega) (fun l hl => by omega)
        refine ⟨x, A, ?_, fA, Or.inr ⟨ok, none, nd, u2⟩⟩
        rw [E_X11_firstMissedPage_9]
        simp only [Option.bind_some, w.f3]
        rw [if_pos (nI_le (Nat.le_refl _) (by omega))]
        rw [if_pos c] at qn
        simp only [c_now hA (show (1, 7, 45) ∈ q_crs by decide), Option.bind_some, z_fI sA.is, qn]
        rw [if_pos (nI_lt c (by omega))]
        exact u1
      · obtain ⟨e1, e2, e3⟩ := elt_ok oR (E := fun i => onR v o (mkW bt) i (v (o + 3))) (r := n - 1) (by omega)
        have nd : nth v o g wy (fun i => onR v o (mkW bt) i (v (o + 3))) n (some (dsP v o g wy (elt (kL v o g wy) (v (o + 2)) (fun i => onR v o (mkW bt) i (v (o + 3))) (n - 1)))) := ⟨by omega, _, e1, e2, by omega, rfl⟩
        have q3 := (q2.2.2 (n - 1) (by rw [if_neg c]; omega)).1
        have hd := dsP_b (v := v) (o := o) (g := g) (wy := wy) (fun a ha => sw.pt hc e1 ha) hg
        obtain ⟨x, u1, u2⟩ := lp2 A fA bA sA (Or.inr trivial) true _ nd (fun z => by cases z) (fun _ => ⟨_, rfl, by omega, q3⟩) (v (o + 3)) 0 (by omega) (fun l hl => by omega)
        refine ⟨x, A, ?_, fA, Or.inr ⟨ok, _, nd, u2⟩⟩
        rw [E_X11_firstMissedPage_9]
        simp only [Option.bind_some, w.f3]
        rw [if_pos (nI_le (Nat.le_refl _) (by omega))]
        rw [if_neg c] at qn
        simp only [c_now hA (show (1, 7, 45) ∈ q_crs by decide), Option.bind_some, z_fI sA.is, qn]
        rw [if_neg (nI_nlt (Nat.le_refl _) (by omega))]
        exact u1
    | succ m ih =>
      intro k hk t A fA aA bA rA sA qA
      have hA := fA.sh h0
      have w := w0.fc fA P63 st.1 st.2.1 st.2.2
      have yA := yf A fA
      have hk3 : k < v (o + 3) := by omega
      rw [E_X11_firstMissedPage_9]
      simp only [Option.bind_some, w.f3]
      rw [if_neg (nI_ge (by omega) (by omega))]
      simp only [c_now hA (show (1, 2, 24) ∈ q_crs by decide), Option.bind_some, pk_mul, a24 hA (show k * 9 < 2700 by omega), yA.2.2 (k * 9) (by omega), nI_1]
      rw [show k * 9 = 9 * k by omega]
      by_cases c1 : bt (9 * k) = nI 1
      · have mt : mkW bt k = true := decide_eq_true c1
        have ml : mkL bt k k = false := by unfold mkL; simp
        obtain ⟨B, u1, u2, u3, u4, u5, u6, u7⟩ := K_rdPg hA sA ap w ⟨fA.st n23 st.1, fA.st n23 st.2.1, fA.st n23 st.2.2⟩ sw hc aA qA rA (show n ≤ 300 by omega) hm hk3 ml
        rw [mkL_t mt] at u6 u7
        obtain ⟨x, M1, y1, y2⟩ := ih (k + 1) (by omega) (t + 1) B (fA.tr u2) u4 (fun x hx => (u5 x).trans (bA x hx)) u6 u3 u7
        refine ⟨x, M1, ?_, y2⟩
        rw [if_pos c1]
        simp only [c_now hA (show (1, 5, 39) ∈ q_crs by decide), c_now hA (show (1, 7, 45) ∈ q_crs by decide), Option.bind_some, s39_sel hA, u1, z_rV]
        exact y1
      · have mf : mkW bt k = false := decide_eq_false c1
        rw [mkL_f mf] at rA qA
        rw [if_neg c1]
        exact ih (k + 1) (by omega) t A fA aA bA rA sA qA
  obtain ⟨B, c1, c2, c3⟩ := K_fb s0 (fun r t => v (o + 4 + 6 * elt (kL v o g wy) (v (o + 2)) (fun i => onR v o (mkL bt 0) i (v (o + 3))) r + t)) (fun r => dsP v o g wy (elt (kL v o g wy) (v (o + 2)) (fun i => onR v o (mkL bt 0) i (v (o + 3))) r))
  have fB : FC (nrP 45 46 47) M0 B := c2.fc (fun a k z => Or.inr (Or.inl z.1))
  have fB' : FC (fdc 45 46 47) M0 B := c2.fc (fun a k z => Or.inl z.1)
  have m0 : mkL bt 0 = fun _ => false := by funext x; unfold mkL; simp
  have on0 : ∀ P i, onR v o (fun _ => false) i P = false := by
    intro P
    induction P with
    | zero => intro i; rfl
    | succ P ih => intro i; unfold onR; rw [ih i]; simp
  have cz : cnt (fun i => onR v o (mkL bt 0) i (v (o + 3))) (v (o + 2)) = 0 := by
    rw [m0]
    exact Eq.trans (cnt_cg (F := fun _ => false) _ (fun i _ => on0 _ i)) (cnt_no (v (o + 2)))
  obtain ⟨x, M1, y1, y2⟩ := lp1 (v (o + 3)) 0 (by omega) 0 B fB (sa0.fc fB' (ap 39 (Or.inl rfl))) (fun k hk => ((fB'.2.2.2.1 40 k (ap 40 (Or.inr (Or.inl rfl)))).2.1).trans (bf0 k hk)) (by
    rw [m0]
    exact fun k hk => ((fB'.2.2.2.1 41 k (ap 41 (Or.inr (Or.inr rfl)))).1).trans (rr0 k hk)) (FS_spare (fB.sh h0)) (by
    unfold NQ
    rw [cz, if_pos (by omega)]
    exact c3)
  refine ⟨x, M1, ?_, y2⟩
  rw [C_X11_firstMissedPage]
  simp only [c_now h0 (show (1, 7, 45) ∈ q_crs by decide), Option.bind_some, z_sel s0.1, c1, z_rV]
  exact y1
theorem least_eq {Q : Nat → Prop} {a b : Nat} (ha : Q a) (hb : Q b) (la : ∀ l, l < a → ¬ Q l) (lb : ∀ l, l < b → ¬ Q l) : a = b := by
  rcases Nat.lt_trichotomy a b with z | z | z
  · exact absurd ha (lb a z)
  · exact z
  · exact absurd hb (la b z)
theorem ckA_eq {v : Nat → Nat} {ic o : Nat} {g : Nat → Nat} {wy n : Nat} {bt : Nat → Int32} {x y : Int32} (sw : SW v ic o) (a : ckA v o g wy n bt x) (b : ckA v o g wy n bt y) : x = y := by
  have oR : Ord (kL v o g wy) (v (o + 2)) := kL_o fun p q hp hq => (sw.2.2.2.2.2 p q hp hq).1
  rcases a with ⟨k, k1, k2, k3, rfl⟩ | ⟨a1, d, d1, d2⟩
  · rcases b with ⟨l, l1, l2, l3, rfl⟩ | ⟨b1, _⟩
    · rw [least_eq (Q := fun k => ¬ okW bt (bxF v o g wy) k) k2 l2 (fun l hl z => z (k3 l hl)) (fun l hl z => z (l3 l hl))]
    · exact absurd (b1 k k1) k2
  · rcases b with ⟨l, l1, l2, l3, rfl⟩ | ⟨b1, d', e1, e2⟩
    · exact absurd (a1 l l1) l2
    · have := nth_eq oR d1 e1
      subst this
      rcases d2 with ⟨k, k1, k2, k3, rfl⟩ | ⟨d3, rfl⟩
      · rcases e2 with ⟨l, l1, l2, l3, rfl⟩ | ⟨e3, rfl⟩
        · rw [least_eq (Q := fun k => mkW bt k = false ∧ ∀ dd, d = some dd → bxF v o g wy k ≤ dd) k2 l2 k3 l3]
        · exact absurd k2 (e3 k k1)
      · rcases e2 with ⟨l, l1, l2, l3, rfl⟩ | ⟨e3, rfl⟩
        · exact absurd l2 (d3 l l1)
        · rfl
theorem K_check_no {v : Nat → Nat} (sv : SV v) {M : q_M} (h : SH M) (hs : HS M 2 v) {bt : Nat → Int32} {N : Nat} (y : YI M bt N) {x1 x2 x3 x4 x5 x6 : Int32} (n : ¬ (∃ j q wy n, askI v x1 x2 x3 x4 x5 x6 j q wy n ∧ N = 9 * v (oS j + 3))) : ∃ M1, q_CL 129 [.inr (.inr (some 1)), .inl x1, .inl x2, .inl x3, .inl x4, .inl x5, .inl x6] M = some (some (.inl (-2)), M1) ∧ FC s39 M M1 := by
  rw [C_X11_check]
  simp only [c_sel h, Option.bind_some]
  by_cases c : ∃ j q wy, aimI v x1 x2 x3 x4 x5 j q wy
  rotate_left
  · refine ⟨M, ?_, FC.rf _ M⟩
    simp only [K_aimAt_no sv h hs c, z_rR, Option.bind_some]
    rw [if_pos trivial]
  obtain ⟨j, q, wy, a⟩ := c
  obtain ⟨r, ps, sz, M1, u1, u2, u3, u4, _⟩ := K_aimAt sv h hs a
  have h1 := u2.sh h
  have y1 : YI M1 bt N := YI.fc u2.fb h.2.2.2 ⟨by unfold s39; omega, by unfold s39; omega⟩ y
  refine ⟨M1, ?_, u2⟩
  simp only [u1, z_rR, Option.bind_some]
  rw [if_neg (by simp)]
  by_cases c0 : x6 < nI 1
  · rw [if_pos c0]
  rw [if_neg c0]
  have c1 : ¬ x6 < 0 := fun z => c0 (by
    have a := Int32.lt_iff_toInt_lt.mp z
    rw [show (0 : Int32) = nI 0 from nI_0.symm, nI_toInt (by omega)] at a
    apply Int32.lt_iff_toInt_lt.mpr
    rw [nI_toInt (by omega)]
    omega)
  obtain ⟨k, hk, rfl⟩ := nI_of c1
  by_cases c2 : k ≤ 20
  rotate_left
  · rw [if_pos (nI_lt (by omega) hk)]
  rw [if_neg (nI_nlt c2 (by omega))]
  simp only [z_fI (i1 h1), y1.1, Option.bind_some, u4.f3, pk_mul]
  obtain ⟨a1, a2, a3, a4, a5, a6, a7, a8, a9⟩ := a
  have sw := sv.sw a1 a3
  have s1 := sw.1
  have s2 := sw.2.1
  have yN := y.2.1
  rw [if_neg]
  intro z
  have e := (nI_eq (by omega) (by omega)).mp z
  exact n ⟨j, q, wy, k, ⟨a1, a2, a3, a4, a5, a6, a7, a8, a9, rfl, Nat.pos_of_ne_zero (fun z => c0 (by rw [z]; exact nI_lt (by omega) (by omega))), c2⟩, e⟩
theorem K_check {v : Nat → Nat} (sv : SV v) {M : q_M} (h : SH M) (hs : HS M 2 v) {bt : Nat → Int32} {N : Nat} (y : YI M bt N) {x1 x2 x3 x4 x5 x6 x : Int32} {j : Nat} {q : Nat → Nat} {wy n : Nat} (a : askI v x1 x2 x3 x4 x5 x6 j q wy n) (eN : N = 9 * v (oS j + 3)) (ck : ckA v (oS j) q wy n bt x) : ∃ M1, q_CL 129 [.inr (.inr (some 1)), .inl x1, .inl x2, .inl x3, .inl x4, .inl x5, .inl x6] M = some (some (.inl x), M1) ∧ FC (nrP 45 46 47) M M1 := by
  obtain ⟨a1, a2, a3, a4, a5, a6, a7, a8, a9, rfl, a10, a11⟩ := a
  have ai : aimI v x1 x2 x3 x4 x5 j q wy := ⟨a1, a2, a3, a4, a5, a6, a7, a8, a9⟩
  obtain ⟨i8, hc⟩ := sv.i8 a1 a3
  have sw := sv.sw a1 a3
  have s1 := sw.1
  have s2 := sw.2.1
  obtain ⟨r, ps, sz, A, u1, u2, u3, u4, u5⟩ := K_aimAt sv h hs ai
  have hA := u2.sh h
  have yA : YI A bt N := YI.fc u2.fb h.2.2.2 ⟨by unfold s39; omega, by unfold s39; omega⟩ y
  obtain ⟨B, b1, b2, b3, b4, b5⟩ := K_meas hA u4 u5 sw hc u3
  have hB := b2.sh hA
  have yB : YI B bt N := YI.fc b2.fb hA.2.2.2 ⟨by unfold s39; omega, by unfold s39; omega⟩ yA
  have n23 : ¬ s39 23 := by unfold s39; omega
  have wB := u4.fc b2 s39_63 u5.1 u5.2.1 u5.2.2
  have e9 : nI N = nI (9 * v (oS j + 3)) := by rw [eN]
  have fAB : FC (nrP 45 46 47) M B := (u2.wk (fun _ z => Or.inl z)).tr (b2.wk (fun _ z => Or.inl z))
  rw [C_X11_check]
  simp only [c_sel h, Option.bind_some, u1, z_rR]
  rw [if_neg (by simp), if_neg (nI_nlt a10 (by omega)), if_neg (nI_nlt a11 (by omega))]
  simp only [z_fI (i1 hA), yA.1, Option.bind_some, u4.f3, pk_mul]
  rw [if_pos e9]
  simp only [c_now hA (show (1, 5, 39) ∈ q_crs by decide), Option.bind_some, s39_sel hA, b1, z_rV, wB.f3, c_sel hB]
  rcases K_ff hB yB eN (by omega) b4 with ⟨k, k1, k2, k3, k4⟩ | ⟨k1, k2⟩
  · refine ⟨B, ?_, fAB⟩
    rw [k4]
    simp only [z_rI, Option.bind_some]
    rw [if_neg (nI_nm1 (by omega)), ckA_eq sw ck (Or.inl ⟨k, k1, k2, k3, rfl⟩)]
  · obtain ⟨x', C, c1, c2, c3⟩ := K_fm hB wB ⟨b2.st n23 u5.1, b2.st n23 u5.2.1, b2.st n23 u5.2.2⟩ sw hc b3 b4 b5 yB eN ⟨a10, a11⟩ k1
    refine ⟨C, ?_, fAB.tr c2⟩
    rw [k2]
    simp only [z_rI, Option.bind_some]
    rw [if_pos trivial]
    simp only [c_sel hB, c1, z_rI, Option.bind_some]
    rw [ckA_eq sw ck c3]
