/-! ===== THE REFERENCE: points ===== -/
theorem plI_cg {v u : Nat → Nat} (h : ∀ x, x < 49 → u x = v x) {i : Nat} (hi : i < 8) (hc : okI v i) {n : Nat} (hn : n < cS v i) : ∀ a, a < 3 → plI u i n a = plI v i n a := by
  intro a ha
  obtain ⟨e1, e2, e3, e4⟩ := cX_cg h hi
  have hs : lsm (cL u i) = lsm (cL v i) := by unfold lsm; rw [e3 0 (by omega), e3 1 (by omega), e3 2 (by omega)]
  obtain ⟨f1, f2, f3, f4, f5⟩ := cmO_cg e3 (cK v i) (cD v i)
  have ec : cmI u i = cmO (cK v i) (cD v i) (cL u i) := by unfold cmI; rw [e1, e2]
  have hn' := hn
  rw [(cS_pw hc).1] at hn'
  unfold plI plc
  rw [hs, ec]
  exact ((bx_cg (gdI hc) f1 f2 f3 f4 f5 _ n (Nat.le_refl _) hn').1 a ha).1
theorem wP_cg {v u : Nat → Nat} (h : ∀ x, x < 49 → u x = v x) {i : Nat} (hi : i < 8) (hc : okI v i) {o : Nat} {lo hi' : Nat → Nat} {n : Nat} (hn : n < cS v i) : wP u i o lo hi' n ↔ wP v i o lo hi' n := by
  have e := plI_cg h hi hc hn
  have : inw lo hi' (plI u i n) ↔ inw lo hi' (plI v i n) := by
    unfold inw
    constructor
    · intro q a ha; rw [← e a ha]; exact q a ha
    · intro q a ha; rw [e a ha]; exact q a ha
  unfold wP
  rw [this]
theorem isW_cg {v u : Nat → Nat} (h : ∀ x, x < 49 → u x = v x) {i : Nat} (hi : i < 8) {w : Nat → Int32} {lo hi' : Nat → Nat} (q : isW v i w lo hi') : isW u i w lo hi' := by
  obtain ⟨e1, e2, e3, e4⟩ := cX_cg h hi
  intro a ha
  rw [e1, e3 a ha]
  exact q a ha
/-- page k has a NUMBER of the window between its first and its last -/
def hitP (v : Nat → Nat) (i o : Nat) (lo hi : Nat → Nat) (k : Nat) : Prop := ∃ n, v (o + 4 + 6 * psm v o k + 5) ≤ n ∧ n ≤ v (o + 4 + 6 * (psm v o k + v (o + 1804 + k) - 1) + 5) ∧ wP v i 1 lo hi n
/-- of the first k pages, c have one -/
def hitN (v : Nat → Nat) (i o : Nat) (lo hi : Nat → Nat) : Nat → Nat → Prop
  | 0, c => c = 0
  | k + 1, c => ∃ c', hitN v i o lo hi k c' ∧ ((hitP v i o lo hi k ∧ c = c' + 1) ∨ (¬ hitP v i o lo hi k ∧ c = c'))
theorem hitN_eq {v : Nat → Nat} {i o : Nat} {lo hi : Nat → Nat} : ∀ k {c d}, hitN v i o lo hi k c → hitN v i o lo hi k d → c = d
  | 0, c, d, h1, h2 => by rw [show c = 0 from h1, show d = 0 from h2]
  | k + 1, c, d, ⟨c', h1, h2⟩, ⟨d', h3, h4⟩ => by
    have := hitN_eq k h1 h3
    rcases h2 with ⟨a, b⟩ | ⟨a, b⟩ <;> rcases h4 with ⟨e, f⟩ | ⟨e, f⟩
    · omega
    · exact absurd a e
    · exact absurd e a
    · omega
theorem hitN_le {v : Nat → Nat} {i o : Nat} {lo hi : Nat → Nat} : ∀ k {c}, hitN v i o lo hi k c → c ≤ k
  | 0, c, h => by rw [show c = 0 from h]; exact Nat.le_refl _
  | k + 1, c, ⟨c', h1, h2⟩ => by
    have := hitN_le k h1
    rcases h2 with ⟨_, b⟩ | ⟨_, b⟩ <;> omega
/-- point i lies in the window, on the axes below a -/
def wnP (v : Nat → Nat) (o : Nat) (lo hi : Nat → Nat) (p : Nat) : Nat → Bool
  | 0 => true
  | a + 1 => wnP v o lo hi p a && decide (lo a ≤ v (o + 4 + 6 * p + (1 + a)) ∧ v (o + 4 + 6 * p + (1 + a)) ≤ hi a)
/-- the order of the row -/
def kI (i j : Nat) : Bool := decide (i < j)
theorem kI_o (m : Nat) : Ord kI m := by
  unfold kI
  refine ⟨fun i hi => by simp, fun i j hi hj ne => ?_, fun i j k hi hj hk a b => ?_⟩
  · simp only [decide_eq_true_eq]; omega
  · simp only [decide_eq_true_eq] at *; omega
theorem rk_kI {m : Nat} {E : Nat → Bool} {i : Nat} : ∀ n, i ≤ n → cnt (fun j => E j && kI j i) n = cnt E i
  | 0, h => by rw [show i = 0 by omega]; rfl
  | n + 1, h => by
    by_cases q : i = n + 1
    · subst q
      refine cnt_cg _ fun j hj => ?_
      unfold kI
      rw [decide_eq_true hj, Bool.and_true]
    · have ih := rk_kI (m := m) (E := E) n (show i ≤ n by omega)
      show cnt (fun j => E j && kI j i) n + (if (E n && kI n i) = true then 1 else 0) = cnt E i
      rw [ih]
      unfold kI
      rw [decide_eq_false (show ¬ n < i by omega), Bool.and_false]
      simp
/-- what points finds -/
def ptV (v : Nat → Nat) (o : Nat) (lo hi : Nat → Nat) (c N : Nat) : Nat → Nat := fdN o (elt kI (v (o + 2)) (fun p => wnP v o lo hi p 3)) (fun _ => 0) (fd0 v c) N
theorem ptV_a {v : Nat → Nat} {i o : Nat} (s : SW v i o) (ho : 1100 ≤ o) (lo hi : Nat → Nat) (c : Nat) {N : Nat} (hN : N ≤ cnt (fun p => wnP v o lo hi p 3) (v (o + 2))) : ptV v o lo hi c N 457 = N ∧ ptV v o lo hi c N 459 = c ∧ (∀ x, x < 457 ∨ 1100 ≤ x → ptV v o lo hi c N x = v x) ∧ ptV v o lo hi c N 458 ≤ 1000 * N := by
  have s1 := s.1
  have cm := cnt_m (fun p => wnP v o lo hi p 3) (v (o + 2))
  obtain ⟨z7, z8, z9⟩ := fd0_7 v c
  obtain ⟨a1, a2⟩ := fdN_a (o := o) (e := elt kI (v (o + 2)) (fun p => wnP v o lo hi p 3)) (d := fun _ => 0) z7 N (by omega)
  refine ⟨a1, (a2 459 (by omega)).trans z9, fun x hx => (a2 x (by omega)).trans (fd0_x (by omega)), fdN_w z7 z8 ho N (by omega) fun r hr => ?_⟩
  rw [fd0_x (by omega)]
  exact (s.2.2.2.2.1 _ (elt_ok (kI_o _) (E := fun p => wnP v o lo hi p 3) (show r < _ by omega)).1).2.1
theorem R_po27 {v : Nat → Nat} (sv : SV v) {i o : Nat} (hi0 : i < v 0) (s : SW v i o) (hi : i < 8) (hc : okI v i) (e1 : v (o + 1) = i) (ho : 1100 ≤ o ∧ o + 2110 ≤ 60180) {w : Nat → Int32} {lo hi' : Nat → Nat} (hw : isW v i w lo hi') {x1 : Int32} : ∀ m k, k + m = v (o + 3) → ∀ c, hitN v i o lo hi' k c → ∀ {M : q_M}, SH M → RI M (fd0 v c) → WI M w → gI M 49 13 = nI o → ∀ d3 d4 d5 d6 d7 d8 d9, ∃ c' M1 f3 f4 f5 f6 f7 f8 f9, hitN v i o lo hi' (v (o + 3)) c' ∧ q_RL T_X12_points (27, [some (.inr (.inr (some 49))), some (.inl x1), some (.inl (nI k)), d3, d4, d5, d6, d7, d8, d9], [], M) = q_RL T_X12_points (113, [some (.inr (.inr (some 49))), some (.inl x1), some (.inl (nI 0)), f3, f4, f5, f6, f7, f8, f9], [], M1) ∧ FL f50 M M1 ∧ RI M1 (fd0 v c') ∧ WI M1 w := by
  have s1 := s.1
  have s2 := s.2.1
  have s5 := s.2.2.2.2.1
  have c61 := cS_62 hc
  intro m
  induction m with
  | zero =>
    intro k hk c hN M h r wi eo d3 d4 d5 d6 d7 d8 d9
    have ep := (R_fld h r ho eo).2.1
    rw [fd0_x (by omega)] at ep
    refine ⟨c, M, d3, d4, d5, d6, d7, d8, d9, by rw [← hk]; exact hN, ?_, FL.rf _ M, r, wi⟩
    rw [E_X12_points_27]
    simp only [m_sel h, Option.bind_some, ep, z_rI]
    rw [if_pos (nI_le (by omega) (by omega))]
  | succ m ih =>
    intro k hk c hN M h r wi eo d3 d4 d5 d6 d7 d8 d9
    have hx : ∀ x, x < 49 ∨ 1100 ≤ x → fd0 v c x = v x := fun x hx => fd0_x (by omega)
    have cg : ∀ x, x < 49 → fd0 v c x = v x := fun x hx' => hx x (Or.inl hx')
    obtain ⟨ep1, ep2, ep3⟩ := R_fld h r ho eo
    rw [hx _ (by omega)] at ep1 ep2 ep3
    have hpg := s.pg (show k < v (o + 3) by omega)
    have h4 := (s.2.2.2.1 k (by omega)).1
    have beg := R_beg h r ho eo (p := k) (by omega)
    rw [psm_hi ho.1 hx] at beg
    have onp := R_onP h r ho eo (k := k) (by omega)
    rw [hx _ (by omega)] at onp
    have pf := R_point h r ho eo (p := psm v o k) (k := 5) (by omega) (by omega)
    have pl := R_point h r ho eo (p := psm v o k + v (o + 1804 + k) - 1) (k := 5) (by omega) (by omega)
    rw [hx _ (by omega)] at pf pl
    have bf : v (o + 4 + 6 * psm v o k + 5) < cS v i := by
      obtain ⟨_, _, a3, a4⟩ := s5 (psm v o k) (by omega)
      rw [a4]; exact npI_lt hc a3
    have bl : v (o + 4 + 6 * (psm v o k + v (o + 1804 + k) - 1) + 5) < cS v i := by
      obtain ⟨_, _, a3, a4⟩ := s5 (psm v o k + v (o + 1804 + k) - 1) (by omega)
      rw [a4]; exact npI_lt hc a3
    obtain ⟨q, M1, n1, n2, n3⟩ := R_next (WC_cg cg sv.1) (show i < fd0 v c 0 by rw [cg 0 (by omega)]; exact hi0) (isW_cg cg hi hw) (o := 1) (Or.inr rfl) (f := v (o + 4 + 6 * psm v o k + 5)) (by omega) h r wi
    rw [(cX_cg cg hi).2.2.2] at n3
    have h1 := n2.sh h
    have r1 := n2.ri r
    have w1 := n2.wi wi
    have eo1 : gI M1 49 13 = nI o := (n2.2.2.2 49 13 (by unfold scr; omega)).trans eo
    have r9 := (r1 459 (by omega) (by omega)).1
    rw [(fd0_7 v c).2.2] at r9
    have cl := hitN_le k hN
    rw [E_X12_points_27]
    simp only [m_sel h, Option.bind_some, ep2, z_rI]
    rw [if_neg (nI_ge (by omega) (by omega))]
    simp only [m_sel h, Option.bind_some, beg, z_rI, pf, z_rL, onp, nI_add, pk_sub (show 1 ≤ psm v o k + v (o + 1804 + k) by omega), pl, ep3, e1, n1]
    have no : ¬ hitP v i o lo hi' k → ∀ e3 e4 e5 e6 e7 e8 e9, ∃ c' M2 f3 f4 f5 f6 f7 f8 f9, hitN v i o lo hi' (v (o + 3)) c' ∧ q_RL T_X12_points (27, [some (.inr (.inr (some 49))), some (.inl x1), some (.inl (nI k + 1)), e3, e4, e5, e6, e7, e8, e9], [], M1) = q_RL T_X12_points (113, [some (.inr (.inr (some 49))), some (.inl x1), some (.inl (nI 0)), f3, f4, f5, f6, f7, f8, f9], [], M2) ∧ FL f50 M M2 ∧ RI M2 (fd0 v c') ∧ WI M2 w := fun hit e3 e4 e5 e6 e7 e8 e9 => by
      rw [nI_1]
      obtain ⟨c', M2, f3, f4, f5, f6, f7, f8, f9, a1, a2, a3, a4, a5⟩ := ih (k + 1) (by omega) c ⟨c, hN, Or.inr ⟨hit, rfl⟩⟩ h1 r1 w1 eo1 e3 e4 e5 e6 e7 e8 e9
      exact ⟨c', M2, f3, f4, f5, f6, f7, f8, f9, a1, a2, (FL.of n2).tr a3, a4, a5⟩
    cases q with
    | none =>
      rw [if_pos (show lg_cmp (rL none) (lN 0) < 0 by decide +kernel)]
      refine no ?_ _ _ _ _ _ _ _
      rintro ⟨n, a1, a2, a3⟩
      exact n3 n a1 (by omega) ((wP_cg cg hi hc (by omega)).mpr a3)
    | some n =>
      obtain ⟨y1, y2, y3, y4⟩ := n3
      rw [if_neg (by rw [lg_cmp_lt]; show ¬ lN n < lN 0; rw [pk_lLT (by omega) (by omega)]; omega)]
      simp only [lg_cmp_gt, show rL (some n) = lN n from rfl, pk_lLT (show v (o + 4 + 6 * (psm v o k + v (o + 1804 + k) - 1) + 5) < 2 ^ 63 by omega) (show n < 2 ^ 63 by omega)]
      by_cases cc : v (o + 4 + 6 * (psm v o k + v (o + 1804 + k) - 1) + 5) < n
      · rw [if_pos cc]
        refine no ?_ _ _ _ _ _ _ _
        rintro ⟨n', a1, a2, a3⟩
        exact y4 n' a1 (by omega) ((wP_cg cg hi hc (by omega)).mpr a3)
      · rw [if_neg cc]
        have hA : SH (stL M1 50 459 (lN (c + 1))) := h1
        have rA := RI_up (k := 459) r1 (show c + 1 < 2 ^ 62 by omega)
        rw [fd0_s] at rA
        simp only [m_s h1, Option.bind_some, m_aL h1 (show 459 < 60190 by omega), r9, lN_add, m_bL h1 (show 459 < 60190 by omega), nI_1]
        obtain ⟨c', M2, f3, f4, f5, f6, f7, f8, f9, a1, a2, a3, a4, a5⟩ := ih (k + 1) (by omega) (c + 1) ⟨c, hN, Or.inl ⟨⟨n, y1, by omega, (wP_cg cg hi hc y2).mp y3⟩, rfl⟩⟩ hA rA (WI_up w1 (by omega)) eo1 (some (.inl (nI (psm v o k)))) (some (.inr (.inl (lN (v (o + 4 + 6 * psm v o k + 5)))))) none (some (.inr (.inl (lN (v (o + 4 + 6 * (psm v o k + v (o + 1804 + k) - 1) + 5)))))) none (some (.inr (.inl (lN n)))) none
        exact ⟨c', M2, f3, f4, f5, f6, f7, f8, f9, a1, a2, ((FL.of n2).st (show f50 50 from rfl)).tr a3, a4, a5⟩
theorem R_po126 {v : Nat → Nat} {i o : Nat} (hc : okI v i) (ho : 1100 ≤ o ∧ o + 2110 ≤ 60180) {w : Nat → Int32} {lo hi' : Nat → Nat} (hw : isW v i w lo hi') {x1 : Int32} {p : Nat} (hp : p < 300) {u : Nat → Nat} (hu : ∀ x, 1100 ≤ x → u x = v x) {M : q_M} (h : SH M) (r : RI M u) (wi : WI M w) (eo : gI M 49 13 = nI o) (hb : ∀ a, a < 3 → v (o + 4 + 6 * p + (1 + a)) < 2 ^ 20) {d5 d6 d7 d8 d9 : Option q_V} : ∀ m a, a + m = 3 → q_RL T_X12_points (126, [some (.inr (.inr (some 49))), some (.inl x1), some (.inl (nI p)), some (.inl (nI (bN (wnP v o lo hi' p a)))), some (.inl (nI a)), d5, d6, d7, d8, d9], [], M) = q_RL T_X12_points (126, [some (.inr (.inr (some 49))), some (.inl x1), some (.inl (nI p)), some (.inl (nI (bN (wnP v o lo hi' p 3)))), some (.inl (nI 3)), d5, d6, d7, d8, d9], [], M) := by
  intro m
  induction m with
  | zero =>
    intro a ha
    rw [show a = 3 by omega]
  | succ m ih =>
    intro a ha
    rw [← ih (a + 1) (by omega)]
    obtain ⟨w1, w2, w3, w4⟩ := hw a (by omega)
    have hba := hb a (by omega)
    have rm := room_le hc (a := a) (by omega)
    have pp := R_point h r ho eo (p := p) (k := 1 + a) (by omega) (by omega)
    rw [hu _ (by omega)] at pp
    have l1 := wi a (by omega)
    have l2 := wi (3 + a) (by omega)
    rw [w1, nI_l (by omega)] at l1
    rw [w2, nI_l (by omega), ← Nat.add_assoc] at l2
    rw [E_X12_points_126, if_neg (nI_ge (by omega) (by omega))]
    show _ = q_RL T_X12_points (126, [_, _, _, some (.inl (nI (bN (wnP v o lo hi' p a && decide (lo a ≤ v (o + 4 + 6 * p + (1 + a)) ∧ v (o + 4 + 6 * p + (1 + a)) ≤ hi' a))))), _, _, _, _, _, _], [], M)
    cases e : wnP v o lo hi' p a with
    | false =>
      rw [if_pos (bN0.mpr rfl), nI_1]
      rfl
    | true =>
      rw [if_neg (fun z => by have := bN0.mp z; simp at this)]
      simp only [m_sel h, Option.bind_some, nI_add, pp, z_rL, m_s h, m_aL h (show 49 + a < 60190 by omega), l1, m_aL h (show 52 + a < 60190 by omega), show gL M 50 (52 + a) = lN (hi' a) from l2, lg_cmp_lt, lg_cmp_gt, pk_lLT (show v (o + 4 + 6 * p + (1 + a)) < 2 ^ 63 by omega) (show lo a < 2 ^ 63 by omega), pk_lLT (show hi' a < 2 ^ 63 by omega) (show v (o + 4 + 6 * p + (1 + a)) < 2 ^ 63 by omega), nI_1, Bool.true_and]
      by_cases c1 : v (o + 4 + 6 * p + (1 + a)) < lo a
      · rw [if_pos c1, decide_eq_false (by omega)]
        rfl
      · rw [if_neg c1]
        by_cases c2 : hi' a < v (o + 4 + 6 * p + (1 + a))
        · rw [if_pos c2, decide_eq_false (by omega)]
          rfl
        · rw [if_neg c2, decide_eq_true (by omega)]
          rfl
theorem R_po113 {v : Nat → Nat} {i o : Nat} (s : SW v i o) (hc : okI v i) (ho : 1100 ≤ o ∧ o + 2110 ≤ 60180) {w : Nat → Int32} {lo hi' : Nat → Nat} (hw : isW v i w lo hi') {x1 : Int32} {c : Nat} : ∀ m p, p + m = v (o + 2) → ∀ {M : q_M}, SH M → RI M (ptV v o lo hi' c (cnt (fun p => wnP v o lo hi' p 3) p)) → WI M w → gI M 49 13 = nI o → ∀ d3 d4 d5 d6 d7 d8 d9, ∃ M1, q_RL T_X12_points (113, [some (.inr (.inr (some 49))), some (.inl x1), some (.inl (nI p)), d3, d4, d5, d6, d7, d8, d9], [], M) = some (some (.inl (nI (cnt (fun p => wnP v o lo hi' p 3) (v (o + 2))))), M1) ∧ FL f50 M M1 ∧ RI M1 (ptV v o lo hi' c (cnt (fun p => wnP v o lo hi' p 3) (v (o + 2)))) ∧ WI M1 w := by
  have s1 := s.1
  have mono : ∀ p, p ≤ v (o + 2) → cnt (fun p => wnP v o lo hi' p 3) p ≤ cnt (fun p => wnP v o lo hi' p 3) (v (o + 2)) := by
    intro p hp
    rw [← rk_kI (m := 0) (E := fun p => wnP v o lo hi' p 3) (v (o + 2)) hp]
    exact cnt_le _ fun j hj e => by rw [Bool.and_eq_true] at e; exact e.1
  intro m
  induction m with
  | zero =>
    intro p hp M h r wi eo d3 d4 d5 d6 d7 d8 d9
    rw [Nat.add_zero] at hp
    rw [hp] at r
    obtain ⟨n7, n9, nx, n8⟩ := ptV_a s ho.1 lo hi' c (Nat.le_refl (cnt (fun p => wnP v o lo hi' p 3) (v (o + 2))))
    have e2 := (R_fld h r ho eo).1
    rw [nx _ (by omega)] at e2
    have r7 := (r 457 (by omega) (by omega)).1
    rw [n7] at r7
    refine ⟨M, ?_, FL.rf _ M, r, wi⟩
    rw [E_X12_points_113]
    simp only [m_sel h, Option.bind_some, e2, z_rI]
    rw [if_pos (nI_le (by omega) (by omega))]
    simp only [m_s h, Option.bind_some, m_aL h (show 457 < 60190 by omega), r7, lN_i]
  | succ m ih =>
    intro p hp M h r wi eo d3 d4 d5 d6 d7 d8 d9
    have cm := cnt_m (fun p => wnP v o lo hi' p 3) p
    obtain ⟨n7, n9, nx, n8⟩ := ptV_a s ho.1 lo hi' c (mono p (by omega))
    have e2 := (R_fld h r ho eo).1
    rw [nx _ (by omega)] at e2
    rw [E_X12_points_113]
    simp only [m_sel h, Option.bind_some, e2, z_rI]
    rw [if_neg (nI_ge (by omega) (by omega))]
    have k := R_po126 hc ho hw (x1 := x1) (p := p) (by omega) (fun x hx => nx x (Or.inr hx)) h r wi eo (fun a ha => s.pt hc (by omega) ha) (d5 := d5) (d6 := d6) (d7 := d7) (d8 := d8) (d9 := d9) 3 0 (by omega)
    have k' : q_RL T_X12_points (126, [some (.inr (.inr (some 49))), some (.inl x1), some (.inl (nI p)), some (.inl (nI 1)), some (.inl (nI 0)), d5, d6, d7, d8, d9], [], M) = _ := k
    rw [k', E_X12_points_126, if_pos (nI_le (by omega) (by omega)), nI_1]
    cases e : wnP v o lo hi' p 3 with
    | false =>
      rw [if_pos (bN0.mpr rfl)]
      have ec : cnt (fun p => wnP v o lo hi' p 3) (p + 1) = cnt (fun p => wnP v o lo hi' p 3) p := by
        show _ + (if wnP v o lo hi' p 3 = true then 1 else 0) = _
        rw [e]; simp
      exact ih (p + 1) (by omega) h (by rw [ec]; exact r) wi eo _ _ _ _ _ _ _
    | true =>
      rw [if_neg (fun z => by have := bN0.mp z; simp at this)]
      have ec : cnt (fun p => wnP v o lo hi' p 3) (p + 1) = cnt (fun p => wnP v o lo hi' p 3) p + 1 := by
        show _ + (if wnP v o lo hi' p 3 = true then 1 else 0) = _
        rw [e]; simp
      have er : rk kI (v (o + 2)) (fun p => wnP v o lo hi' p 3) p = cnt (fun p => wnP v o lo hi' p 3) p := rk_kI (m := 0) (v (o + 2)) (by omega)
      have el : elt kI (v (o + 2)) (fun p => wnP v o lo hi' p 3) (cnt (fun p => wnP v o lo hi' p 3) p) = p := elt_at (kI_o _) (by omega) e er
      have hN3 : ptV v o lo hi' c (cnt (fun p => wnP v o lo hi' p 3) p) 457 < 300 := by rw [n7]; omega
      have hW3 : ptV v o lo hi' c (cnt (fun p => wnP v o lo hi' p 3) p) 458 + ptV v o lo hi' c (cnt (fun p => wnP v o lo hi' p 3) p) (o + 4 + 6 * p + 4) < 2 ^ 62 := by
        rw [nx (o + 4 + 6 * p + 4) (by omega)]
        have := (s.2.2.2.2.1 p (by omega)).2.1
        omega
      obtain ⟨M1, f1, f2, f3, f4⟩ := R_finds (o := o) (p := p) (d := 0) ho (by omega) (by omega) hN3 hW3 h r wi eo
      have f3' : RI M1 (ptV v o lo hi' c (cnt (fun p => wnP v o lo hi' p 3) (p + 1))) := by
        have : ptV v o lo hi' c (cnt (fun p => wnP v o lo hi' p 3) (p + 1)) = fdS (ptV v o lo hi' c (cnt (fun p => wnP v o lo hi' p 3) p)) o p 0 := by
          rw [ec]
          show fdS _ o (elt kI (v (o + 2)) (fun p => wnP v o lo hi' p 3) (cnt (fun p => wnP v o lo hi' p 3) p)) 0 = _
          rw [el]
          rfl
        rw [this]; exact f3
      obtain ⟨M2, g1, g2, g3, g4⟩ := ih (p + 1) (by omega) (f2.sh h) f3' f4 ((f2.2.2.2.1 49 13 (by unfold scr; omega)).trans eo) (some (.inl (nI (bN true)))) (some (.inl (nI 3))) d5 d6 d7 d8 d9
      refine ⟨M2, ?_, f2.tr g2, g3, g4⟩
      simp only [m_sel h, Option.bind_some, f1, z_rV, g1]
theorem R_points {v : Nat → Nat} (s : SV v) {w : Nat → Int32} {M : q_M} (h : SH M) (r : RI M v) (wi : WI M w) (x1 : Int32) : (¬ (∃ j lo hi, j < 4 ∧ x1 = nI j ∧ v (oS j) = 1 ∧ isW v (v (oS j + 1)) w lo hi) ∧ ∃ M1, q_CL 203 [.inr (.inr (some 49)), .inl x1] M = some (some (.inl (-1)), M1) ∧ FO (fun _ => False) M M1) ∨ ∃ j lo hi c M1, j < 4 ∧ x1 = nI j ∧ v (oS j) = 1 ∧ isW v (v (oS j + 1)) w lo hi ∧ hitN v (v (oS j + 1)) (oS j) lo hi (v (oS j + 3)) c ∧ q_CL 203 [.inr (.inr (some 49)), .inl x1] M = some (some (.inl (nI (cnt (fun p => wnP v (oS j) lo hi p 3) (v (oS j + 2))))), M1) ∧ FO f50 M M1 ∧ RI M1 (ptV v (oS j) lo hi c (cnt (fun p => wnP v (oS j) lo hi p 3) (v (oS j + 2)))) ∧ WI M1 w := by
  rw [C_X12_points]
  simp only [m_sel h, Option.bind_some]
  rcases R_opens h r x1 with ⟨hx, M1, e, f⟩ | ⟨j, hj, rfl, eo, e⟩
  · left
    refine ⟨fun ⟨j, lo, hi, a, b, c, _⟩ => hx ⟨j, a, b, c⟩, M1, ?_, f⟩
    rw [e]; rfl
  have ob := oS_b hj
  have ho : 1100 ≤ oS j ∧ oS j + 2110 ≤ 60180 := by omega
  rw [e]
  simp only [z_rI, Option.bind_some]
  rw [if_neg (show ¬ nI 1 = 0 by decide +kernel)]
  have hA : SH (stI M 49 13 (nI (oS j))) := h
  have rA : RI (stI M 49 13 (nI (oS j))) v := r
  have wA : WI (stI M 49 13 (nI (oS j))) w := wi
  have fA : ∀ A, FO A M (stI M 49 13 (nI (oS j))) := fun A => (FO.rf A M).sO
  have eA : gI (stI M 49 13 (nI (oS j))) 49 13 = nI (oS j) := gI_self
  generalize stI M 49 13 (nI (oS j)) = A at *
  have sw := s.sw hj eo
  obtain ⟨i8, hc⟩ := s.i8 hj eo
  have hi0 := ((s.2 j hj).2.2 eo).1
  simp only [m_sel hA, Option.bind_some, (R_fld hA rA ho eA).2.2, z_rI]
  rcases R_isW hA rA wA i8 hc with ⟨nw, ew⟩ | ⟨lo, hi, hw, ew⟩
  · left
    refine ⟨?_, A, ?_, fA _⟩
    · rintro ⟨j2, lo, hi, _, b, _, d⟩
      have : j = j2 := (nI_eq (by omega) (by omega)).mp b
      subst this
      exact nw ⟨lo, hi, d⟩
    · rw [ew]; rfl
  right
  rw [ew]
  simp only [z_rI, Option.bind_some]
  rw [if_neg (show ¬ nI 1 = 0 by decide +kernel)]
  obtain ⟨B, b1, b2, b3, b4⟩ := R_begins hA rA wA
  have hB := b2.sh hA
  have eB : gI B 49 13 = nI (oS j) := (b2.2.2.2.1 49 13 (by unfold scr; omega)).trans eA
  obtain ⟨c, C, f3, f4, f5, f6, f7, f8, f9, c1, c2, c3, c4, c5⟩ := R_po27 s hi0 sw i8 hc rfl ho hw (x1 := nI j) (v (oS j + 3)) 0 (by omega) 0 rfl hB b3 b4 eB none none none none none none none
  obtain ⟨D, d1, d2, d3, d4⟩ := R_po113 sw hc ho hw (x1 := nI j) (c := c) (v (oS j + 2)) 0 (by omega) (c3.sh hB) c4 c5 ((c3.2.2.2.1 49 13 (by unfold scr; omega)).trans eB) f3 f4 f5 f6 f7 f8 f9
  refine ⟨j, lo, hi, c, D, hj, rfl, eo, hw, c1, ?_, (((fA f50).tr (FO.of b2)).tr (FO.of c3)).tr (FO.of d2), d3, d4⟩
  simp only [m_sel hA, Option.bind_some, b1, z_rV, c2, d1]
