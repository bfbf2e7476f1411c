/-! ===== THE CLASS: a curve is made ===== -/
theorem owB_0 {L : Nat → Nat} {n : Nat} (h : ∀ a, a < 3 → L a ≤ n) : owB L n = [] := by
  have e0 : fB L n 0 = owB L n := rfl
  rw [← e0, fB_s L n (by omega), if_neg (by have := h 0 (by omega); omega), fB_s L n (by omega), if_neg (by have := h 1 (by omega); exact Nat.not_lt.mpr this), fB_s L n (by omega), if_neg (by have := h 2 (by omega); exact Nat.not_lt.mpr this)]
  rfl
theorem owN_up {L : Nat → Nat} {n : Nat} (h : ∀ a, a < 3 → L a ≤ n) : ∀ m, owN L (n + m) = owN L n
  | 0 => rfl
  | m + 1 => by
    show owB L (n + m) ++ owN L (n + m) = _
    rw [owB_0 (fun a ha => by have := h a ha; omega), owN_up h m]; rfl
theorem owR_len (L : Nat → Nat) : (owR L).length = lsm L := by
  rw [ow_len (owR_3 L), owR_c L 0 (by omega), owR_c L 1 (by omega), owR_c L 2 (by omega)]; rfl
theorem owW_len {L : Nat → Nat} (h : ∀ a, a < 3 → L a ≤ 20) : (owW L).length = lsm L := by
  rw [ow_len (show ∀ x ∈ owW L, x < 3 from owN_3 L 20), owW_c h 0 (by omega), owW_c h 1 (by omega), owW_c h 2 (by omega)]; rfl
theorem gD_app {l : List Nat} {x k : Nat} : (l ++ [x]).getD k 0 = if k < l.length then l.getD k 0 else if k = l.length then x else 0 := by
  by_cases c : k < l.length
  · rw [if_pos c]
    simp [List.getD, List.getElem?_append, c]
  · rw [if_neg c]
    by_cases e : k = l.length
    · rw [if_pos e]; simp [List.getD, e]
    · rw [if_neg e]
      simp [List.getD, List.getElem?_append, c]
      rw [List.getElem?_eq_none (by simp; omega)]; rfl
/-- an order being written -/
def OD (B A : q_M) (od : Nat) (l : List Nat) : Prop := FC (fun a => a = od) B A ∧ ∀ k, k < l.length → gI A od k = nI (l.getD k 0)
theorem OD.w {B A : q_M} {od x : Nat} {l : List Nat} (o : OD B A od l) : OD B (stI A od l.length (nI x)) od (l ++ [x]) := by
  refine ⟨o.1.sI rfl, fun k hk => ?_⟩
  rw [List.length_append] at hk
  simp only [List.length_cons, List.length_nil] at hk
  rw [gI_stI, gD_app]
  by_cases c : k = l.length
  · rw [if_pos ⟨rfl, c⟩, if_neg (by omega), if_pos c]
  · rw [if_neg (fun z => c z.2), if_pos (by omega)]; exact o.2 k (by omega)
theorem K_wv {B : q_M} {lr od : Nat} {L : Nat → Nat} {T : List Nat} (tl : B.1 lr = 14) (ll : B.2.1 lr = 3) (gl : ∀ a, a < 3 → gI B lr a = nI (L a)) (hL : ∀ a, a < 3 → L a ≤ 20) (to : B.1 od = 14) (lo : B.2.1 od = T.length) (hT : T.length ≤ 60) (ne : lr ≠ od) {x3 : Int32} : ∀ b, b ≤ 20 → ∀ A l, OD B A od l → l ++ owN L b = T → ∀ d5, ∃ M1, q_RL T_X0_woven (37, [some (.inr (.inr (some lr))), some (.inr (.inr (some od))), some (.inl (nI l.length)), some (.inl x3), some (.inl (nI b + (-1))), d5], [], A) = some (some (.inr (.inr (some od))), M1) ∧ OD B M1 od T := by
  intro b
  induction b with
  | zero =>
    intro _ A l o e d5
    have e : l ++ [] = T := e
    rw [List.append_nil] at e
    subst e
    refine ⟨A, ?_, o⟩
    rw [E_X0_woven_37, if_pos (show nI 0 + (-1) < 0 by decide +kernel)]
  | succ b ih =>
    intro hb A l o e d5
    have inner : ∀ n x, x + n = 3 → ∀ A l, OD B A od l → l ++ (fB L b x ++ owN L b) = T → ∃ M1, q_RL T_X0_woven (45, [some (.inr (.inr (some lr))), some (.inr (.inr (some od))), some (.inl (nI l.length)), some (.inl x3), some (.inl (nI b)), some (.inl (nI x))], [], A) = some (some (.inr (.inr (some od))), M1) ∧ OD B M1 od T := by
      intro n
      induction n with
      | zero =>
        intro x hx A l o e
        have hx : x = 3 := hx
        subst hx
        have e : l ++ owN L b = T := e
        rw [E_X0_woven_45, if_pos (nI_le (Nat.le_refl _) (by omega))]
        exact ih (by omega) A l o e _
      | succ n ih2 =>
        intro x hx A l o e
        have x3' : x < 3 := by omega
        have rd : q_aI A 14 lr (nI x) = some (nI (L x)) := by
          rw [z_aI (n := 3) (by rw [o.1.1]; exact tl) (by rw [o.1.2.1]; exact ll) x3' (by omega), (o.1.2.2.2.1 lr x ne).1, gl x x3']
        rw [fB_s L b x3'] at e
        rw [E_X0_woven_45, if_neg (nI_ge x3' (by omega))]
        simp only [Option.bind_some, rd, nI_1]
        have lx := hL x x3'
        by_cases c : b < L x
        · rw [if_pos c] at e
          rw [if_neg (nI_ge c (by omega))]
          have ll2 : l.length < T.length := by rw [← e]; simp
          rw [z_bI (n := T.length) (by rw [o.1.1]; exact to) (by rw [o.1.2.1]; exact lo) ll2 (by omega)]
          simp only [Option.bind_some]
          have := ih2 (x + 1) (by omega) (stI A od l.length (nI x)) (l ++ [x]) o.w (by rw [← e]; simp)
          rw [List.length_append] at this
          exact this
        · rw [if_neg c] at e
          rw [if_pos (nI_le (by omega) (by omega))]
          exact ih2 (x + 1) (by omega) A l o e
    rw [E_X0_woven_37, pk_m1, if_neg (nI_pos (by omega))]
    exact inner 3 0 (by omega) A l o (by rw [← e]; rfl)
theorem K_rwO {B : q_M} {lr od : Nat} {L : Nat → Nat} {T : List Nat} (tl : B.1 lr = 14) (ll : B.2.1 lr = 3) (gl : ∀ a, a < 3 → gI B lr a = nI (L a)) (hL : ∀ a, a < 3 → L a ≤ 20) (to : B.1 od = 14) (lo : B.2.1 od = T.length) (hT : T.length ≤ 60) (ne : lr ≠ od) : ∀ n x, x + n = 3 → ∀ A l, OD B A od l → l ++ fR L x = T → ∀ d4, ∃ M1, q_RL T_X0_axisByAxis (18, [some (.inr (.inr (some lr))), some (.inr (.inr (some od))), some (.inl (nI l.length)), some (.inl (nI x)), d4], [], A) = some (some (.inr (.inr (some od))), M1) ∧ OD B M1 od T := by
  intro n
  induction n with
  | zero =>
    intro x hx A l o e d4
    have hx : x = 3 := hx
    subst hx
    have e : l ++ [] = T := e
    rw [List.append_nil] at e
    subst e
    refine ⟨A, ?_, o⟩
    rw [E_X0_axisByAxis_18, if_pos (nI_le (Nat.le_refl _) (by omega))]
  | succ n ih =>
    intro x hx A l o e d4
    have x3' : x < 3 := by omega
    have lx := hL x x3'
    have inner : ∀ m j, j + m = L x → ∀ A l, OD B A od l → l ++ (List.replicate m x ++ fR L (x + 1)) = T → ∃ M1, q_RL T_X0_axisByAxis (26, [some (.inr (.inr (some lr))), some (.inr (.inr (some od))), some (.inl (nI l.length)), some (.inl (nI x)), some (.inl (nI j))], [], A) = some (some (.inr (.inr (some od))), M1) ∧ OD B M1 od T := by
      intro m
      induction m with
      | zero =>
        intro j hj A l o e
        have rd : q_aI A 14 lr (nI x) = some (nI (L x)) := by
          rw [z_aI (n := 3) (by rw [o.1.1]; exact tl) (by rw [o.1.2.1]; exact ll) x3' (by omega), (o.1.2.2.2.1 lr x ne).1, gl x x3']
        rw [E_X0_axisByAxis_26]
        simp only [Option.bind_some, rd, nI_1]
        rw [if_pos (nI_le (by omega) (by omega))]
        exact ih (x + 1) (by omega) A l o e _
      | succ m ih2 =>
        intro j hj A l o e
        have rd : q_aI A 14 lr (nI x) = some (nI (L x)) := by
          rw [z_aI (n := 3) (by rw [o.1.1]; exact tl) (by rw [o.1.2.1]; exact ll) x3' (by omega), (o.1.2.2.2.1 lr x ne).1, gl x x3']
        have ll2 : l.length < T.length := by rw [← e, List.replicate_succ]; simp
        rw [E_X0_axisByAxis_26]
        simp only [Option.bind_some, rd, nI_1]
        rw [if_neg (nI_ge (by omega) (by omega)), z_bI (n := T.length) (by rw [o.1.1]; exact to) (by rw [o.1.2.1]; exact lo) ll2 (by omega)]
        simp only [Option.bind_some]
        have := ih2 (j + 1) (by omega) (stI A od l.length (nI x)) (l ++ [x]) o.w (by rw [← e, List.replicate_succ]; simp)
        rw [List.length_append] at this
        exact this
    rw [E_X0_axisByAxis_18, if_neg (nI_ge x3' (by omega))]
    exact inner (L x) 0 (by omega) A l o (by rw [← fR_s L x3']; exact e)
/-- the order of a curve's axes is made -/
theorem K_order {M : q_M} (g : 63 ≤ gN M) {lr rw_ : Nat} {L : Nat → Nat} (tl : M.1 lr = 14) (ll : M.2.1 lr = 3) (gl : ∀ a, a < 3 → gI M lr a = nI (L a)) (hL : ∀ a, a < 3 → L a ≤ 20) (hlr : lr < gN M) (hr : rw_ = 5 ∨ rw_ = 6) (rn : gN M + 1 ≤ 600000) (rs : gS M + 60 ≤ 7302250) : ∃ M1, q_CL rw_ [.inr (.inr (some lr))] M = some (some (.inr (.inr (some (gN M)))), M1) ∧ FB (fun _ => False) 1 60 M M1 ∧ gN M1 = gN M + 1 ∧ M1.1 (gN M) = 14 ∧ M1.2.1 (gN M) = lsm L ∧ ∀ k, k < lsm L → gI M1 (gN M) k = nI ((if rw_ = 5 then owR L else owW L).getD k 0) := by
  have l0 := hL 0 (by omega)
  have l1 := hL 1 (by omega)
  have l2 := hL 2 (by omega)
  have hs : lsm L ≤ 60 := by unfold lsm; omega
  have a0 : ∀ a, a < 3 → q_aI M 14 lr (nI a) = some (nI (L a)) := fun a ha => by rw [z_aI (n := 3) tl ll ha (by omega), gl a ha]
  have zn : q_newA M 14 (nI (lsm L)) = some (q_born M 14 (lsm L)) := z_newA (by omega) (by omega) (by omega)
  have fb := FB.born (fun _ => False) M g 14 (lsm L)
  have tb : (q_born M 14 (lsm L)).1 lr = 14 := (t_bornx (by omega)).trans tl
  have lb : (q_born M 14 (lsm L)).2.1 lr = 3 := (l_bornx (by omega)).trans ll
  have gb : ∀ a, a < 3 → gI (q_born M 14 (lsm L)) lr a = nI (L a) := fun a ha => (gI_bornx (by omega)).trans (gl a ha)
  have to : (q_born M 14 (lsm L)).1 (gN M) = 14 := t_bornS M 14 (lsm L)
  have lo : (q_born M 14 (lsm L)).2.1 (gN M) = lsm L := l_born M 14 (lsm L)
  have nb : gN (q_born M 14 (lsm L)) = gN M + 1 := rfl
  generalize q_born M 14 (lsm L) = B at *
  have aB : ∀ a, a < 3 → q_aI B 14 lr (nI a) = some (nI (L a)) := fun a ha => by rw [z_aI (n := 3) tb lb ha (by omega), gb a ha]
  have fin : ∀ M1 T, OD B M1 (gN M) T → T.length = lsm L → T = (if rw_ = 5 then owR L else owW L) → FB (fun _ => False) 1 60 M M1 ∧ gN M1 = gN M + 1 ∧ M1.1 (gN M) = 14 ∧ M1.2.1 (gN M) = lsm L ∧ ∀ k, k < lsm L → gI M1 (gN M) k = nI ((if rw_ = 5 then owR L else owW L).getD k 0) := fun M1 T o e eT => by
    refine ⟨(fb.tr o.1.fb (fun x hx z => by omega)).wk (fun _ _ z => z) (by omega) (by omega), by rw [o.1.gn]; exact nb, by rw [o.1.1]; exact to, by rw [o.1.2.1]; exact lo, fun k hk => ?_⟩
    rw [← eT]
    exact o.2 k (by omega)
  rcases hr with rfl | rfl
  · obtain ⟨M1, u1, u2⟩ := K_rwO tb lb gb hL to (T := owR L) (by rw [lo, owR_len]) (by rw [owR_len]; exact hs) (by omega) 3 0 (by omega) B [] ⟨FC.rf _ B, fun k hk => by cases hk⟩ (by rw [fR_0]; rfl) none
    refine ⟨M1, ?_, fin M1 (owR L) u2 (owR_len L) rfl⟩
    rw [C_X0_axisByAxis]
    simp only [Option.bind_some, a0 0 (by omega), a0 1 (by omega), a0 2 (by omega), nI_add]
    rw [show L 0 + L 1 + L 2 = lsm L from rfl, zn]
    simp only [Option.bind_some, gN_d]
    exact u1
  · let H : Nat := if L 0 < (if L 1 < L 2 then L 2 else L 1) then (if L 1 < L 2 then L 2 else L 1) else L 0
    have hH : H ≤ 20 ∧ ∀ a, a < 3 → L a ≤ H := by
      refine ⟨?_, fun a ha => ?_⟩
      · show (if L 0 < (if L 1 < L 2 then L 2 else L 1) then (if L 1 < L 2 then L 2 else L 1) else L 0) ≤ 20
        repeat' split
        all_goals omega
      · show L a ≤ (if L 0 < (if L 1 < L 2 then L 2 else L 1) then (if L 1 < L 2 then L 2 else L 1) else L 0)
        rcases (show a = 0 ∨ a = 1 ∨ a = 2 by omega) with rfl | rfl | rfl <;> (repeat' split) <;> omega
    have eW : owN L H = owW L := by
      have := owN_up hH.2 (20 - H)
      rw [show H + (20 - H) = 20 by omega] at this
      exact this.symm
    have eH : (if nI (L 0) < (if nI (L 1) < nI (L 2) then nI (L 2) else nI (L 1)) then (if nI (L 1) < nI (L 2) then nI (L 2) else nI (L 1)) else nI (L 0)) = nI H := by
      have e1 : (if nI (L 1) < nI (L 2) then nI (L 2) else nI (L 1)) = nI (if L 1 < L 2 then L 2 else L 1) := by
        by_cases c : L 1 < L 2
        · rw [if_pos (nI_lt c (by omega)), if_pos c]
        · rw [if_neg (nI_nlt (by omega) (by omega)), if_neg c]
      rw [e1]
      have b : (if L 1 < L 2 then L 2 else L 1) ≤ 20 := by split <;> omega
      show _ = nI (if L 0 < (if L 1 < L 2 then L 2 else L 1) then (if L 1 < L 2 then L 2 else L 1) else L 0)
      generalize (if L 1 < L 2 then L 2 else L 1) = m at *
      by_cases c : L 0 < m
      · rw [if_pos (nI_lt c (by omega)), if_pos c]
      · rw [if_neg (nI_nlt (by omega) (by omega)), if_neg c]
    obtain ⟨M1, u1, u2⟩ := K_wv tb lb gb hL to (T := owW L) (by rw [lo, owW_len hL]) (by rw [owW_len hL]; exact hs) (by omega) (x3 := nI H) H hH.1 B [] ⟨FC.rf _ B, fun k hk => by cases hk⟩ (by rw [← eW]; rfl) none
    refine ⟨M1, ?_, fin M1 (owW L) u2 (owW_len hL) rfl⟩
    rw [C_X0_woven]
    simp only [Option.bind_some, a0 0 (by omega), a0 1 (by omega), a0 2 (by omega), nI_add]
    rw [show L 0 + L 1 + L 2 = lsm L from rfl, zn]
    simp only [Option.bind_some, gN_d, aB 0 (by omega), aB 1 (by omega), aB 2 (by omega), eH]
    have em : nI H - nI 1 = nI H + (-1) := by
      have : ∀ x : Int32, x - nI 1 = x + (-1) := fun x => by rw [Int32.sub_eq_add_neg]; rfl
      exact this _
    rw [em]
    exact u1
