/-! ===== THE CLASS: curve ===== -/
def lpS (L : Nat → Nat) : Nat → Nat
  | 0 => 0
  | x + 1 => lpS L x + L x
theorem K_in54 {B0 : q_M} {c rm lr B : Nat} {L : Nat → Nat} (tc : q_isT 0 (B0.1 c) = true) (gc : 63 ≤ c) (cr : c ≠ rm) (lc : lr ≠ c) (lrm : lr ≠ rm) (trm : B0.1 rm = 14) (lm : B0.2.1 rm = 3) (f3 : gR B0 c 3 = some rm) (tl : B0.1 lr = 14) (ll : B0.2.1 lr = 3) (gl : ∀ a, a < 3 → gI B0 lr a = nI (L a)) (hL : ∀ a, a < 3 → L a ≤ 20) (hB : 1 ≤ B ∧ B ≤ 3) (hp : ∀ a, a < 3 → B ^ L a < 2 ^ 30) {x1 x2 x5 : Int32} : ∀ n x, x + n = 3 → ∀ A, FC (fun a => a = c ∨ a = rm) B0 A → gR A c 3 = some rm → (∀ k, gI A c k = gI B0 c k) → (∀ k, gR A c k = gR B0 c k) → (∀ a, a < x → gI A rm a = nI (B ^ L a)) → ∀ d7 d9, ∃ M1, q_RL T_X0_init (54, [some (.inr (.inr (some c))), some (.inl x1), some (.inl x2), some (.inl (nI B)), some (.inr (.inr (some lr))), some (.inl x5), some (.inr (.inl (lN (B ^ lpS L x)))), d7, some (.inl (nI x)), d9], [], A) = some (none, M1) ∧ FC (fun a => a = c ∨ a = rm) B0 M1 ∧ (∀ k, gI M1 c k = gI B0 c k) ∧ (∀ k, gR M1 c k = gR B0 c k) ∧ (∀ a, a < 3 → gI M1 rm a = nI (B ^ L a)) ∧ gL M1 c 5 = lN (B ^ lpS L 3) := by
  intro n
  induction n with
  | zero =>
    intro x hx A f r3 gi gr gm d7 d9
    have hx : x = 3 := hx
    subst hx
    have tA : q_isT 0 (A.1 c) = true := by rw [f.1]; exact tc
    refine ⟨stL A c 5 (lN (B ^ lpS L 3)), ?_, f.sL (Or.inl rfl), gi, gr, gm, by rw [gL_stL, if_pos ⟨rfl, rfl⟩]⟩
    rw [E_X0_init_54, if_pos (nI_le (Nat.le_refl _) (by omega))]
    simp only [z_sL tA, Option.bind_some]
  | succ n ih =>
    intro x hx A f r3 gi gr gm d7 d9
    have x3 : x < 3 := by omega
    have lx := hL x x3
    have tA : q_isT 0 (A.1 c) = true := by rw [f.1]; exact tc
    have inner : ∀ m j, j + m = L x → ∀ A, FC (fun a => a = c ∨ a = rm) B0 A → gR A c 3 = some rm → (∀ k, gI A c k = gI B0 c k) → (∀ k, gR A c k = gR B0 c k) → (∀ a, a < x → gI A rm a = nI (B ^ L a)) → gI A rm x = nI (B ^ j) → ∃ M1, q_RL T_X0_init (71, [some (.inr (.inr (some c))), some (.inl x1), some (.inl x2), some (.inl (nI B)), some (.inr (.inr (some lr))), some (.inl x5), some (.inr (.inl (lN (B ^ lpS L x)))), d7, some (.inl (nI x)), some (.inl (nI j))], [], A) = some (none, M1) ∧ FC (fun a => a = c ∨ a = rm) B0 M1 ∧ (∀ k, gI M1 c k = gI B0 c k) ∧ (∀ k, gR M1 c k = gR B0 c k) ∧ (∀ a, a < 3 → gI M1 rm a = nI (B ^ L a)) ∧ gL M1 c 5 = lN (B ^ lpS L 3) := by
      intro m
      induction m with
      | zero =>
        intro j hj A f r3 gi gr gm ge
        have tA : q_isT 0 (A.1 c) = true := by rw [f.1]; exact tc
        have rd : q_aI A 14 lr (nI x) = some (nI (L x)) := by
          rw [z_aI (n := 3) (by rw [f.1]; exact tl) (by rw [f.2.1]; exact ll) x3 (by omega), (f.2.2.2.1 lr x (by omega)).1, gl x x3]
        have hj : j = L x := by omega
        subst hj
        have := ih (x + 1) (by omega) A f r3 gi gr (fun a ha => by
          by_cases z : a = x
          · rw [z]; exact ge
          · exact gm a (by omega)) none (some (.inl (nI (L x))))
        rw [E_X0_init_71]
        simp only [Option.bind_some, rd]
        rw [if_pos (nI_le (Nat.le_refl _) (by omega))]
        simp only [z_fR tA, r3, Option.bind_some, z_aI (M := A) (t := 14) (a := rm) (k := x) (n := 3) (by rw [f.1]; exact trm) (by rw [f.2.1]; exact lm) x3 (by omega), ge, nI_1]
        rw [nI_l (show B ^ L x < 2 ^ 31 by have := hp x x3; omega), lN_mul, ← Nat.pow_add]
        exact this
      | succ m ih2 =>
        intro j hj A f r3 gi gr gm ge
        have tA : q_isT 0 (A.1 c) = true := by rw [f.1]; exact tc
        have rd : q_aI A 14 lr (nI x) = some (nI (L x)) := by
          rw [z_aI (n := 3) (by rw [f.1]; exact tl) (by rw [f.2.1]; exact ll) x3 (by omega), (f.2.2.2.1 lr x (by omega)).1, gl x x3]
        have := ih2 (j + 1) (by omega) (stI A rm x (nI (B ^ (j + 1)))) (f.sI (Or.inr rfl)) r3 (fun k => by rw [gI_stI, if_neg (fun z => cr z.1)]; exact gi k) gr (fun a ha => by rw [gI_stI, if_neg (by omega)]; exact gm a ha) (by rw [gI_stI, if_pos ⟨rfl, rfl⟩])
        rw [E_X0_init_71]
        simp only [Option.bind_some, rd]
        rw [if_neg (nI_ge (by omega) (by omega))]
        simp only [z_fR tA, r3, Option.bind_some, z_aI (M := A) (t := 14) (a := rm) (k := x) (n := 3) (by rw [f.1]; exact trm) (by rw [f.2.1]; exact lm) x3 (by omega), ge, nI_1, pk_mul, z_bI (M := A) (t := 14) (a := rm) (k := x) (n := 3) (by rw [f.1]; exact trm) (by rw [f.2.1]; exact lm) x3 (by omega)]
        rw [← Nat.pow_succ]
        exact this
    rw [E_X0_init_54, if_neg (nI_ge x3 (by omega))]
    simp only [z_fR tA, r3, Option.bind_some, z_bI (M := A) (t := 14) (a := rm) (k := x) (n := 3) (by rw [f.1]; exact trm) (by rw [f.2.1]; exact lm) x3 (by omega)]
    exact inner (L x) 0 (by omega) (stI A rm x (nI 1)) (f.sI (Or.inr rfl)) r3 (fun k => by rw [gI_stI, if_neg (fun z => cr z.1)]; exact gi k) gr (fun a ha => by rw [gI_stI, if_neg (by omega)]; exact gm a ha) (by rw [gI_stI, if_pos ⟨rfl, rfl⟩, Nat.pow_zero])
/-- a curve's constructor -/
theorem K_cinit {M : q_M} (g : 63 ≤ gN M) {c lr B i d ro : Nat} {L : Nat → Nat} (tc : q_isT 0 (M.1 c) = true) (gc : 63 ≤ c ∧ c < gN M) (lc : lr ≠ c) (hlr : lr < gN M) (tl : M.1 lr = 14) (ll : M.2.1 lr = 3) (gl : ∀ a, a < 3 → gI M lr a = nI (L a)) (hL : ∀ a, a < 3 → L a ≤ 20) (hB : 1 ≤ B ∧ B ≤ 3) (hp : ∀ a, a < 3 → B ^ L a < 2 ^ 30) (hr : ro = 0 ∨ ro = 1) (rn : gN M + 2 ≤ 600000) (rs : gS M + 63 ≤ 7302250) : ∃ M1, q_CL 0 [.inr (.inr (some c)), .inl (nI i), .inl (nI d), .inl (nI B), .inr (.inr (some lr)), .inl (nI ro)] M = some (none, M1) ∧ FB (fun a => a = c) 2 63 M M1 ∧ gN M1 = gN M + 2 ∧ gI M1 c 0 = nI i ∧ gI M1 c 1 = nI d ∧ gI M1 c 2 = nI B ∧ gL M1 c 5 = lN (B ^ lsm L) ∧ gR M1 c 3 = some (gN M) ∧ gR M1 c 4 = some (gN M + 1) ∧ M1.1 (gN M) = 14 ∧ M1.2.1 (gN M) = 3 ∧ (∀ a, a < 3 → gI M1 (gN M) a = nI (B ^ L a)) ∧ M1.1 (gN M + 1) = 14 ∧ M1.2.1 (gN M + 1) = lsm L ∧ ∀ k, k < lsm L → gI M1 (gN M + 1) k = nI ((if ro = 1 then owR L else owW L).getD k 0) := by
  have zn : q_newA M 14 (nI 3) = some (q_born M 14 3) := z_newA (by omega) (by omega) (by omega)
  have fb := FB.born (fun a => a = c) M g 14 3
  have tb : q_isT 0 ((q_born M 14 3).1 c) = true := by rw [t_bornx (by omega)]; exact tc
  have tlb : (q_born M 14 3).1 lr = 14 := (t_bornx (by omega)).trans tl
  have llb : (q_born M 14 3).2.1 lr = 3 := (l_bornx (by omega)).trans ll
  have glb : ∀ a, a < 3 → gI (q_born M 14 3) lr a = nI (L a) := fun a ha => (gI_bornx (by omega)).trans (gl a ha)
  have tm : (q_born M 14 3).1 (gN M) = 14 := t_bornS M 14 3
  have lm : (q_born M 14 3).2.1 (gN M) = 3 := l_born M 14 3
  have nb : gN (q_born M 14 3) = gN M + 1 := rfl
  have sb : gS (q_born M 14 3) = gS M + 3 := rfl
  rw [C_X0_init]
  simp only [zn, Option.bind_some, gN_d]
  generalize q_born M 14 3 = A at *
  have t1 : q_isT 0 ((stR A c 3 (some (gN M))).1 c) = true := tb
  have t2 : q_isT 0 ((stI (stR A c 3 (some (gN M))) c 0 (nI i)).1 c) = true := tb
  have t3 : q_isT 0 ((stI (stI (stR A c 3 (some (gN M))) c 0 (nI i)) c 1 (nI d)).1 c) = true := tb
  have fA : FC (fun a => a = c) A (stI (stI (stI (stR A c 3 (some (gN M))) c 0 (nI i)) c 1 (nI d)) c 2 (nI B)) := ((((FC.rf (fun a => a = c) A).sR rfl (isc_63 gc.1)).sI rfl).sI rfl).sI rfl
  have e0 : gI (stI (stI (stI (stR A c 3 (some (gN M))) c 0 (nI i)) c 1 (nI d)) c 2 (nI B)) c 0 = nI i := by simp only [gI_stI]; rfl
  have e1 : gI (stI (stI (stI (stR A c 3 (some (gN M))) c 0 (nI i)) c 1 (nI d)) c 2 (nI B)) c 1 = nI d := by simp only [gI_stI]; rfl
  have e2 : gI (stI (stI (stI (stR A c 3 (some (gN M))) c 0 (nI i)) c 1 (nI d)) c 2 (nI B)) c 2 = nI B := by rw [gI_stI, if_pos ⟨rfl, rfl⟩]
  have e3 : gR (stI (stI (stI (stR A c 3 (some (gN M))) c 0 (nI i)) c 1 (nI d)) c 2 (nI B)) c 3 = some (gN M) := by simp only [gR_stI]; rw [gR_stR, if_pos ⟨rfl, rfl⟩]
  simp only [z_sR tb, Option.bind_some, z_sI t1, z_sI t2, z_sI t3]
  generalize stI (stI (stI (stR A c 3 (some (gN M))) c 0 (nI i)) c 1 (nI d)) c 2 (nI B) = D at *
  have nD : gN D = gN M + 1 := by rw [fA.gn]; exact nb
  have sD : gS D = gS M + 3 := by rw [fA.gs]; exact sb
  obtain ⟨E, o1, o2, o3, o4, o5, o6⟩ := K_order (M := D) (by omega) (lr := lr) (rw_ := if ro = 1 then 5 else 6) (L := L) (by rw [fA.1]; exact tlb) (by rw [fA.2.1]; exact llb) (fun a ha => (fA.2.2.2.1 lr a lc).1.trans (glb a ha)) hL (by omega) (by rcases hr with rfl | rfl <;> simp) (by omega) (by omega)
  rw [nD] at o1 o3 o4 o5 o6
  have tE : q_isT 0 (E.1 c) = true := by rw [(o2.2.2.2.1 c (by omega)).1, fA.1]; exact tb
  have cE : ∀ a k, a < gN M + 1 → gI E a k = gI D a k ∧ gL E a k = gL D a k ∧ gR E a k = gR D a k := fun a k ha => o2.2.2.2.2.1 a k (by omega) (fun z => z)
  have tgE : ∀ a, a < gN M + 1 → E.1 a = A.1 a ∧ E.2.1 a = A.2.1 a := fun a ha => by
    rw [(o2.2.2.2.1 a (by omega)).1, (o2.2.2.2.1 a (by omega)).2, fA.1, fA.2.1]
    exact ⟨rfl, rfl⟩
  have fF : FC (fun a => a = c ∨ a = gN M) E (stR E c 4 (some (gN M + 1))) := (FC.rf _ E).sR (Or.inl rfl) (isc_63 gc.1)
  have f4 : gR (stR E c 4 (some (gN M + 1))) c 4 = some (gN M + 1) := by rw [gR_stR, if_pos ⟨rfl, rfl⟩]
  have f3 : gR (stR E c 4 (some (gN M + 1))) c 3 = some (gN M) := by rw [gR_stR, if_neg (by omega), (cE c 3 (by omega)).2.2]; exact e3
  have fi : ∀ k, gI (stR E c 4 (some (gN M + 1))) c k = gI D c k := fun k => (cE c k (by omega)).1
  have flr : ∀ a, a < 3 → gI (stR E c 4 (some (gN M + 1))) lr a = nI (L a) := fun a ha => by
    show gI E lr a = _
    rw [(cE lr a (by omega)).1, (fA.2.2.2.1 lr a lc).1]; exact glb a ha
  have tF : ∀ a, (stR E c 4 (some (gN M + 1))).1 a = E.1 a ∧ (stR E c 4 (some (gN M + 1))).2.1 a = E.2.1 a := fun a => ⟨rfl, rfl⟩
  have zF : q_sR E 0 c 4 (some (gN M + 1)) = some (stR E c 4 (some (gN M + 1))) := z_sR tE
  have iF : ∀ k, gI (stR E c 4 (some (gN M + 1))) (gN M + 1) k = gI E (gN M + 1) k := fun k => rfl
  have nF : gN (stR E c 4 (some (gN M + 1))) = gN M + 2 := by show gN E = _; omega
  have sF : gS (stR E c 4 (some (gN M + 1))) ≤ gS M + 63 := by show gS E ≤ _; have := o2.2.2.1; omega
  generalize stR E c 4 (some (gN M + 1)) = F at *
  obtain ⟨M1, m1, m2, m3, m4, m5, m6⟩ := K_in54 (B0 := F) (c := c) (rm := gN M) (lr := lr) (B := B) (L := L) (by rw [(tF c).1]; exact tE) gc.1 (by omega) lc (by omega) (by rw [(tF _).1, (tgE _ (by omega)).1]; exact tm) (by rw [(tF _).2, (tgE _ (by omega)).2]; exact lm) f3 (by rw [(tF _).1, (tgE _ (by omega)).1]; exact tlb) (by rw [(tF _).2, (tgE _ (by omega)).2]; exact llb) flr hL hB hp (x1 := nI i) (x2 := nI d) (x5 := nI ro) 3 0 (by omega) F (FC.rf _ F) f3 (fun _ => rfl) (fun _ => rfl) (fun a ha => by omega) none none
  have fAll : FB (fun a => a = c) 2 63 M M1 := by
    have q := ((fb.tr fA.fb (fun x hx z => z)).tr o2 (fun x hx z => z.elim)).tr (fF.tr m2).fb (fun x hx z => by rcases z with z | z; exact z; omega)
    exact q.wk (fun _ _ z => z) (by omega) (by omega)
  refine ⟨M1, ?_, fAll, by rw [m2.gn]; exact nF, by rw [m3, fi]; exact e0, by rw [m3, fi]; exact e1, by rw [m3, fi]; exact e2, ?_, by rw [m4]; exact f3, by rw [m4]; exact f4, ?_, ?_, m5, ?_, ?_, fun k hk => ?_⟩
  · rcases hr with rfl | rfl
    · rw [if_pos nI_0]
      have o1' : q_CL 6 [.inr (.inr (some lr))] D = some (some (.inr (.inr (some (gN M + 1)))), E) := o1
      simp only [o1', z_rR, Option.bind_some, zF]
      exact m1
    · rw [if_neg (show ¬ nI 1 = 0 by decide +kernel)]
      have o1' : q_CL 5 [.inr (.inr (some lr))] D = some (some (.inr (.inr (some (gN M + 1)))), E) := o1
      simp only [o1', z_rR, Option.bind_some, zF]
      exact m1
  · rw [m6]
    show lN (B ^ (0 + L 0 + L 1 + L 2)) = _
    rw [Nat.zero_add]; rfl
  · rw [m2.1, (tF _).1, (tgE _ (by omega)).1]; exact tm
  · rw [m2.2.1, (tF _).2, (tgE _ (by omega)).2]; exact lm
  · rw [m2.1, (tF _).1]; exact o4
  · rw [m2.2.1, (tF _).2]; exact o5
  · rw [(m2.2.2.2.1 (gN M + 1) k (by omega)).1, iF, o6 k hk]
    rcases hr with rfl | rfl <;> rfl
