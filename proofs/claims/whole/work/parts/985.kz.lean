/-! ===== THE CLASS: sow ===== -/
def TN (M : q_M) (v : Nat → Nat) (o : Nat) : Prop := ∀ n, n ≤ 300 → ((∃ y, y < v (o + 2) ∧ v (o + 4 + 6 * y) = n) → gI M 48 n = nI 1) ∧ ((¬ ∃ y, y < v (o + 2) ∧ v (o + 4 + 6 * y) = n) → gI M 48 n = nI 0)
def a48 (a : Nat) : Prop := a = 48
theorem b48 {M : q_M} (h : SH M) {k : Nat} {x : Int32} (hk : k < 301) : q_bI M 16 48 (nI k) x = some (stI M 48 k x) := y_bI h (by omega) (by omega) rfl hk (by decide)
theorem g48 {M : q_M} (h : SH M) {k : Nat} (hk : k < 301) : q_aI M 16 48 (nI k) = some (gI M 48 k) := y_aI h (by omega) (by omega) rfl hk (by decide)
theorem K_mark {M : q_M} {r ps sz : Nat} {v : Nat → Nat} {o : Nat} (h : SH M) (w : RWx M r ps sz v o) (hm : v (o + 2) ≤ 300) (hb : ∀ p, p < v (o + 2) → v (o + 4 + 6 * p) ≤ 9999) (g63 : 63 ≤ r ∧ 63 ≤ ps ∧ 63 ≤ sz) : ∃ M1, q_CL 27 [.inr (.inr (some r)), .inr (.inr (some 48))] M = some (none, M1) ∧ FC a48 M M1 ∧ TN M1 v o := by
  have t48 : M.1 48 = 16 := h.1 48 (by omega)
  have l48 : M.2.1 48 = 301 := h.2.1 48 (by omega) (by omega)
  have k0 : (nI 0) &&& 1 = nI 0 := by decide +kernel
  have k1 : (nI 1) &&& 1 = nI 1 := by decide +kernel
  have wf : ∀ A, FC a48 M A → RWx A r ps sz v o := fun A f => by
    obtain ⟨h1, h2, h3, h4, h5, h6, h7, h8, h9, h10, h11, h12, h13⟩ := w
    have n1 : ¬ a48 r := fun e => by unfold a48 at e; omega
    have n2 : ¬ a48 ps := fun e => by unfold a48 at e; omega
    have n3 : ¬ a48 sz := fun e => by unfold a48 at e; omega
    refine ⟨by rw [f.1]; exact h1, ((f.2.2.2.1 r 0 n1).2.2).trans h2, ((f.2.2.2.1 r 1 n1).2.2).trans h3, by rw [f.1]; exact h4, by rw [f.1]; exact h5, by rw [f.2.1]; exact h6, by rw [f.2.1]; exact h7, by rw [f.2.1]; exact h8, by rw [f.2.1]; exact h9, ((f.2.2.2.1 r 2 n1).1).trans h10, ((f.2.2.2.1 r 3 n1).1).trans h11, fun p hp => ?_, fun x hx => ((f.2.2.2.1 sz x n3).1).trans (h13 x hx)⟩
    obtain ⟨c, c1, c2⟩ := h12 p hp
    exact ⟨c, ((f.2.2.2.1 ps p n2).2.2).trans c1, c2.fc f (by unfold a48; omega) (fun e => by have := c2.2.2.2.2.2.2.2.1; unfold a48 at e; omega)⟩
  have lp2 : ∀ n k, k + n = v (o + 2) → ∀ A, FC a48 M A → (∀ x, x ≤ 300 → ((∃ y, y < k ∧ v (o + 4 + 6 * y) = x) → gI A 48 x = nI 1) ∧ ((¬ ∃ y, y < k ∧ v (o + 4 + 6 * y) = x) → gI A 48 x = nI 0)) → ∃ M1, q_RL T_X3_markNames (20, [some (.inr (.inr (some r))), some (.inr (.inr (some 48))), some (.inl (nI k))], [], A) = some (none, M1) ∧ FC a48 M M1 ∧ TN M1 v o := by
    intro n
    induction n with
    | zero =>
      intro k hk A f x
      refine ⟨A, ?_, f, ?_⟩
      · rw [E_X3_markNames_20]
        simp only [(wf A f).f2, Option.bind_some]
        rw [if_pos (nI_le (by omega) (by omega))]
      · unfold TN
        rw [← hk, Nat.add_zero]
        exact x
    | succ n ih =>
      intro k hk A f x
      have wA := wf A f
      have hA := f.sh h
      obtain ⟨c, c1, c2⟩ := wA.pt (show k < v (o + 2) by omega)
      have f0 : q_fI A 2 c 0 = some (nI (v (o + 4 + 6 * k))) := c2.f.1
      have hbk := hb k (by omega)
      have ln : q_len A 48 = some (nI 301) := by unfold q_len; rw [f.1, t48, if_pos (by omega), f.2.1, l48]; rfl
      rw [E_X3_markNames_20]
      simp only [wA.f2, Option.bind_some]
      rw [if_neg (nI_ge (by omega) (by omega))]
      simp only [wA.f0, Option.bind_some, c1, f0, ln]
      by_cases z : 301 ≤ v (o + 4 + 6 * k)
      · rw [if_pos (nI_le z (by omega))]
        obtain ⟨M1, u1, u2, u3⟩ := ih (k + 1) (by omega) A f (fun y hy => ⟨fun ⟨a, a1, a2⟩ => (x y hy).1 ⟨a, by by_cases q : a = k; rw [q] at a2; omega; omega, a2⟩, fun q => (x y hy).2 (fun ⟨a, a1, a2⟩ => q ⟨a, by omega, a2⟩)⟩)
        exact ⟨M1, by rw [nI_1]; exact u1, u2, u3⟩
      · rw [if_neg (nI_ge (by omega) (by omega))]
        obtain ⟨M1, u1, u2, u3⟩ := ih (k + 1) (by omega) (stI A 48 (v (o + 4 + 6 * k)) (nI 1)) (f.sI rfl) (fun y hy => by
          rw [gI_stI]
          refine ⟨fun ⟨a, a1, a2⟩ => ?_, fun q => ?_⟩
          · by_cases e : y = v (o + 4 + 6 * k)
            · rw [if_pos ⟨rfl, e⟩]
            · rw [if_neg (fun z => e z.2)]
              exact (x y hy).1 ⟨a, by by_cases q : a = k; rw [q] at a2; omega; omega, a2⟩
          · rw [if_neg (fun z => q ⟨k, by omega, z.2.symm⟩)]
            exact (x y hy).2 (fun ⟨a, a1, a2⟩ => q ⟨a, by omega, a2⟩))
        refine ⟨M1, ?_, u2, u3⟩
        simp only [k1, b48 hA (show v (o + 4 + 6 * k) < 301 by omega), Option.bind_some, nI_1]
        exact u1
  have lp1 : ∀ n k, k + n = 301 → ∀ A, FC a48 M A → (∀ x, x < k → gI A 48 x = nI 0) → ∃ M1, q_RL T_X3_markNames (2, [some (.inr (.inr (some r))), some (.inr (.inr (some 48))), some (.inl (nI k))], [], A) = some (none, M1) ∧ FC a48 M M1 ∧ TN M1 v o := by
    intro n
    induction n with
    | zero =>
      intro k hk A f x
      have ln : q_len A 48 = some (nI 301) := by unfold q_len; rw [f.1, t48, if_pos (by omega), f.2.1, l48]; rfl
      obtain ⟨M1, u1, u2, u3⟩ := lp2 (v (o + 2)) 0 (by omega) A f (fun y hy => ⟨fun ⟨a, a1, _⟩ => by omega, fun _ => x y (by omega)⟩)
      refine ⟨M1, ?_, u2, u3⟩
      rw [E_X3_markNames_2]
      simp only [Option.bind_some, ln]
      rw [if_pos (nI_le (by omega) (by omega))]
      exact u1
    | succ n ih =>
      intro k hk A f x
      have hA := f.sh h
      have ln : q_len A 48 = some (nI 301) := by unfold q_len; rw [f.1, t48, if_pos (by omega), f.2.1, l48]; rfl
      obtain ⟨M1, u1, u2, u3⟩ := ih (k + 1) (by omega) (stI A 48 k (nI 0)) (f.sI rfl) (fun y hy => by
        rw [gI_stI]
        by_cases e : y = k
        · rw [if_pos ⟨rfl, e⟩]
        · rw [if_neg (fun z => e z.2)]; exact x y (by omega))
      refine ⟨M1, ?_, u2, u3⟩
      rw [E_X3_markNames_2]
      simp only [Option.bind_some, ln]
      rw [if_neg (nI_ge (by omega) (by omega))]
      simp only [k0, b48 hA (show k < 301 by omega), Option.bind_some, nI_1]
      exact u1
  rw [C_X3_markNames]
  exact lp1 301 0 (by omega) M (FC.rf _ M) (fun x hx => by omega)
theorem K_freeN {M : q_M} {v : Nat → Nat} {o nm : Nat} (h : SH M) (tn : TN M v o) (fn : frN v o nm) (hn : nm ≤ 300) : q_CL 101 [.inr (.inr (some 1))] M = some (some (.inl (nI nm)), stI M 48 nm (nI 1)) := by
  have k1 : (nI 1) &&& 1 = nI 1 := by decide +kernel
  rw [C_X11_takeFreeName]
  have key : ∀ n k, k + n = nm → q_RL T_X11_takeFreeName (2, [some (.inr (.inr (some 1))), some (.inl (nI k))], [], M) = some (some (.inl (nI nm)), stI M 48 nm (nI 1)) := by
    intro n
    induction n with
    | zero =>
      intro k hk
      have e : k = nm := by omega
      subst e
      have g := (tn k hn).2 (fun ⟨y, y1, y2⟩ => fn.1 y y1 y2)
      rw [E_X11_takeFreeName_2]
      simp only [c_now h (show (1, 8, 48) ∈ q_crs by decide), Option.bind_some, k1, b48 h (show k < 301 by omega), g48 h (show k < 301 by omega), g]
      rw [if_pos (show nI 0 = 0 from nI_0)]
      split <;> rfl
    | succ n ih =>
      intro k hk
      have g := (tn k (by omega)).1 (fn.2 k (by omega))
      rw [E_X11_takeFreeName_2, if_neg (nI_ge (by omega) (by omega))]
      simp only [c_now h (show (1, 8, 48) ∈ q_crs by decide), Option.bind_some, g48 h (show k < 301 by omega), g, nI_1]
      rw [if_neg (show ¬ nI 1 = 0 by decide +kernel)]
      exact ih (k + 1) (by omega)
  exact key nm 0 (by omega)
theorem K_drawn (M : q_M) (g : Int32) {c : Nat} (h : 0 < c ∧ c < 2 ^ 31) : q_CL 100 [.inl g, .inl (nI c)] M = some (some (.inl (nI (dv g c))), M) := by
  rw [C_X11_drawn, if_pos (nI_le h.1 h.2), if_neg (nI_ne0 h.1 h.2), dv_at g h]
/-- a born point gets its number and is filled -/
theorem K_ptB {v : Nat → Nat} {i nm wt : Nat} {q : Nat → Nat} (hc : okI v i) {M B : q_M} {o : Nat} {P : Nat → Prop} (h : SH M) (ib : IB M) (fb : FB P 1 6 M B) (hP : ∀ a, P a → a < 63 ∧ a ≠ 23) (p34 : ¬ P 34 ∧ ¬ P 35) (t2 : B.1 (gN M) = 2) (nB : gN B = gN M + 1) (co : CO M o (cK v i) (cD v i) (cL v i) i) (wz : WZ M) (hq : ∀ a, a < 3 → q a < cB (cK v i) ^ cL v i a) : ∃ B2 M1, q_CL 73 [.inr (.inr (some 25)), .inr (.inr (some o)), .inl (nI (q 0)), .inl (nI (q 1)), .inl (nI (q 2))] B = some (some (.inr (.inl (lN (npI v i q)))), B2) ∧ q_CL 14 [.inr (.inr (some (gN M))), .inl (nI nm), .inr (.inl (lN (npI v i q))), .inl (nI (q 0)), .inl (nI (q 1)), .inl (nI (q 2)), .inl (nI wt)] B2 = some (none, M1) ∧ FB (fun a => P a ∨ wsc a) 1 6 M M1 ∧ FC (fun a => wsc a ∨ a = gN M) B M1 ∧ WZ M1 ∧ PO M1 (gN M) (cP nm q wt (npI v i q)) := by
  have g := h.2.2.2
  have k1 : KP M B := fb.kp g (fun a _ z => hP a z)
  have wz1 : WZ B := ⟨((fb.2.2.2.2.1 34 0 (by omega) p34.1).1).trans wz.1, ((fb.2.2.2.2.1 35 0 (by omega) p34.2).2.1).trans wz.2⟩
  obtain ⟨B2, u1, u2, u3, u4⟩ := K_numOf hc.1 (fb.sh h) (co.kp k1) wz1.1 wz1.2 hq
  have tB : B2.1 (gN M) = 2 := by rw [u2.1]; exact t2
  obtain ⟨M1, w1, w2, w3, w4, w5, w6, w7, w8⟩ := K_p14 tB g (nI nm) (lN (npI v i q)) (nI (q 0)) (nI (q 1)) (nI (q 2)) (nI wt)
  have n1 : gN M1 = gN M + 1 := by rw [w2.gn, u2.gn, nB]
  have fall : FC (fun a => wsc a ∨ a = gN M) B M1 := (u2.wk (fun _ z => Or.inl z)).tr (w2.wk (fun _ z => Or.inr z))
  have fB : FB (fun a => P a ∨ wsc a) 1 6 M M1 := ((fb.wk (fun _ _ z => Or.inl z) (Nat.le_refl _) (Nat.le_refl _) : FB (fun a => P a ∨ wsc a) 1 6 M B).tr fall.fb (fun x hx e => by
    rcases e with e | e
    · exact Or.inr e
    · omega)).wk (fun _ _ z => z) (by omega) (by omega)
  refine ⟨B2, M1, u1, w1, fB, fall, WZ.fc w2 ⟨by omega, by omega⟩ ⟨u3, u4⟩, ?_⟩
  refine ⟨by rw [w2.1]; exact tB, w3, w4, w5, w6, w7, w8, ST_new fB g (fun z => ?_) ib (Nat.le_refl _) (by omega)⟩
  rcases z with z | z
  · exact (hP 23 z).2 rfl
  · unfold wsc at z; omega
