/-! ===== THE CLASS: gap, the window, jump ===== -/
theorem i32_flip (x y : Int32) : 0 - (x - y) = y - x := by rw [Int32.zero_sub, Int32.neg_sub]
theorem abs_i {a b : Nat} (ha : a < 2 ^ 30) (hb : b < 2 ^ 30) : (if 0 ≤ (nI a - nI b) then (nI a - nI b) else 0 - (nI a - nI b)) = nI (if b ≤ a then a - b else b - a) := by
  by_cases q : b ≤ a
  · rw [pk_sub q, if_pos (nI_pos' (by omega)), if_pos q]
  · have n := pk_sneg hb (show a < b by omega)
    rw [if_neg (fun z => by
      have z1 := Int32.le_iff_toInt_le.mp z
      have z2 := Int32.lt_iff_toInt_lt.mp n
      omega), if_neg q, i32_flip, pk_sub (by omega)]
theorem K_gap75 {v : Nat → Nat} {i : Nat} (hc : okI v i) {o : Nat} {x1 : Int32} {l2 : Int64} {n N : Nat} (hN : N ≤ 300) (hn : n + N < cS v i) {d3 : Option q_V} {r5 : Option Nat} : ∀ m k, k + m = N → ∀ {M : q_M}, WK M o (cK v i) (cD v i) (cL v i) i → WV M (fun _ => 0) (fun a => cB (cK v i) ^ cL v i a - 1) → PT M (cmI v i) (lsm (cL v i)) (n + k) (lsm (cL v i)) → ∀ d8 d9 d10 d11, ∃ M1, q_RL T_X11_gap (75, [some (.inr (.inr (some 1))), some (.inl x1), some (.inr (.inl l2)), d3, some (.inl (nI N)), some (.inr (.inr r5)), some (.inl (nI (gpN v i n k))), some (.inl (nI k)), d8, d9, d10, d11], [], M) = some (some (.inl (nI (gpN v i n N))), M1) ∧ WF M M1 := by
  have c62 := cS_62 hc
  intro m
  induction m with
  | zero =>
    intro k hk M w wv pt d8 d9 d10 d11
    rw [Nat.add_zero] at hk
    refine ⟨M, ?_, WF.rf M⟩
    rw [E_X11_gap_75, if_pos (nI_le (by omega) (by omega)), hk]
  | succ m ih =>
    intro k hk M w wv pt d8 d9 d10 d11
    have h := w.1
    obtain ⟨q, M1, u1, u2, u3, u4⟩ := K_onward (c := o) (i := i) hc.1 (o := 1) (Or.inr rfl) (whole_w hc) w wv (n := n + k) (by rw [okI_S hc]; omega) pt
    have eq : q = some (n + (k + 1)) := Nx.uniq u2 ⟨by omega, by rw [okI_S hc]; omega, whole_in hc (by omega), fun m h1 h2 => by omega⟩
    subst eq
    have w1 := u3.wk w
    have h1 := w1.1
    have pt1 := u4 _ rfl
    obtain ⟨M2, t1, t2⟩ := ih (k + 1) (by omega) w1 (u3.wv wv) pt1 (some (.inl (nI (plI v i (n + k) 0)))) (some (.inl (nI (plI v i (n + k) 1)))) (some (.inl (nI (plI v i (n + k) 2)))) (some (.inl (nI (dsN (plI v i (n + (k + 1))) (plI v i (n + k))))))
    have b0 := (dsN_le hc (n := n + k) (m := n + k) (by omega) (by omega)).2
    have b1 := (dsN_le hc (n := n + (k + 1)) (m := n + k) (by omega) (by omega))
    have gl := gpN_le hc (n := n) k (by omega)
    refine ⟨M2, ?_, u3.tr t2⟩
    have l0 : ∀ a, a < 3 → q_CL 72 [.inr (.inr (some 25)), .inl (nI a)] M = some (some (.inl (nI (plI v i (n + k) a))), M) := fun a ha => K_leaf hc.1 w pt ha
    have l1 : ∀ a, a < 3 → q_CL 72 [.inr (.inr (some 25)), .inl (nI a)] M1 = some (some (.inl (nI (plI v i (n + (k + 1)) a))), M1) := fun a ha => K_leaf hc.1 w1 pt1 ha
    have ea : ∀ a, a < 3 → (if 0 ≤ (nI (plI v i (n + (k + 1)) a) - nI (plI v i (n + k) a)) then (nI (plI v i (n + (k + 1)) a) - nI (plI v i (n + k) a)) else 0 - (nI (plI v i (n + (k + 1)) a) - nI (plI v i (n + k) a))) = nI (if plI v i (n + k) a ≤ plI v i (n + (k + 1)) a then plI v i (n + (k + 1)) a - plI v i (n + k) a else plI v i (n + k) a - plI v i (n + (k + 1)) a) := fun a ha => abs_i (by have := b1.2 a ha; omega) (by have := b0 a ha; omega)
    rw [E_X11_gap_75, if_neg (nI_ge (by omega) (by omega))]
    simp only [c_now h (show (1, 4, 25) ∈ q_crs by decide), Option.bind_some, w_sel h, l0 0 (by omega), l0 1 (by omega), l0 2 (by omega), z_rI, u1, z_rL, c_now h1 (show (1, 4, 25) ∈ q_crs by decide), w_sel h1, l1 0 (by omega), l1 1 (by omega), l1 2 (by omega), ea 0 (by omega), ea 1 (by omega), ea 2 (by omega), nI_add, nI_1]
    have ed : (if plI v i (n + k) 0 ≤ plI v i (n + (k + 1)) 0 then plI v i (n + (k + 1)) 0 - plI v i (n + k) 0 else plI v i (n + k) 0 - plI v i (n + (k + 1)) 0) + (if plI v i (n + k) 1 ≤ plI v i (n + (k + 1)) 1 then plI v i (n + (k + 1)) 1 - plI v i (n + k) 1 else plI v i (n + k) 1 - plI v i (n + (k + 1)) 1) + (if plI v i (n + k) 2 ≤ plI v i (n + (k + 1)) 2 then plI v i (n + (k + 1)) 2 - plI v i (n + k) 2 else plI v i (n + k) 2 - plI v i (n + (k + 1)) 2) = dsN (plI v i (n + (k + 1))) (plI v i (n + k)) := rfl
    rw [ed]
    have eg : (if nI (gpN v i n k) < nI (dsN (plI v i (n + (k + 1))) (plI v i (n + k))) then nI (dsN (plI v i (n + (k + 1))) (plI v i (n + k))) else nI (gpN v i n k)) = nI (gpN v i n (k + 1)) := by
      show _ = nI (if dsN (plI v i (n + (k + 1))) (plI v i (n + k)) ≤ gpN v i n k then gpN v i n k else dsN (plI v i (n + (k + 1))) (plI v i (n + k)))
      by_cases z : dsN (plI v i (n + (k + 1))) (plI v i (n + k)) ≤ gpN v i n k
      · rw [if_pos z, if_neg (nI_nlt z (by omega))]
      · rw [if_neg z, if_pos (nI_lt (by omega) (by have := b1.1; omega))]
    rw [eg, t1]
theorem K_gap_no {v : Nat → Nat} (wc : WC v) {M : q_M} (h : SH M) (c : CS M 2 v) {x1 : Int32} {l : Int64} {x : Int32} (n : ¬ (∃ i n a, i < v 0 ∧ x1 = nI i ∧ 1 ≤ a ∧ a ≤ 300 ∧ l = lN n ∧ n + a < cS v i ∧ x = nI a)) : q_CL 85 [.inr (.inr (some 1)), .inl x1, .inr (.inl l), .inl x] M = some (some (.inl (-1)), M) := by
  rw [C_X11_gap]
  simp only [c_sel h, Option.bind_some]
  by_cases hx : ∃ i, i < v 0 ∧ x1 = nI i
  · obtain ⟨i, hi, rfl⟩ := hx
    obtain ⟨o, o1, o2⟩ := K_cA wc h c hi
    have hc := wc.2 i hi
    have c62 := cS_62 hc
    rw [o1]
    simp only [z_rR, Option.bind_some]
    rw [if_neg (by simp)]
    rcases rg2 x (show 300 + 1 < 2 ^ 31 by omega) (show 1 ≤ 300 by omega) with z | ⟨z1, z2⟩ | ⟨a, ha1, ha2, rfl, z1, z2⟩
    · rw [if_pos z]
    · rw [if_neg z1, if_pos z2]
    rw [if_neg z1, if_neg z2]
    simp only [lg_cmp_lt, o2.tt, Option.bind_some, lg_cmp_le, okI_S hc]
    by_cases l0 : l < lN 0
    · rw [if_pos l0]
    rw [if_neg l0]
    obtain ⟨k, hk, rfl⟩ := pk_lOf (x := l) l0
    rw [if_neg]
    intro z
    have S1 : 1 ≤ cS v i := by rw [← okI_S hc]; exact Nat.pow_pos (by have := cB_2 (cK v i); omega)
    rw [nI_l (show a < 2 ^ 31 by omega), lN_sub S1] at z
    have z' : lN k ≤ lN (cS v i - 1) - lN a := z
    by_cases w1 : a ≤ cS v i - 1
    · rw [lN_sub w1, pk_lLE hk (by omega)] at z'
      exact n ⟨i, k, a, hi, rfl, ha1, ha2, rfl, by omega, rfl⟩
    · have e1 : (lN k).toInt ≤ (lN (cS v i - 1) - lN a).toInt := Int64.le_iff_toInt_le.mp z'
      rw [← nI_l (show cS v i - 1 < 2 ^ 31 by omega), ← nI_l (show a < 2 ^ 31 by omega), lg_i2l_sub, nI_toInt (by omega), nI_toInt (by omega), pk_lT hk] at e1
      omega
  · rw [K_cA_no wc h c hx]
    rfl
theorem K_gap {v : Nat → Nat} (wc : WC v) {M : q_M} (h : SH M) (c : CS M 2 v) (wz : WZ M) {i n a : Nat} (hi : i < v 0) (ha : 1 ≤ a ∧ a ≤ 300) (hn : n + a < cS v i) : ∃ M1, q_CL 85 [.inr (.inr (some 1)), .inl (nI i), .inr (.inl (lN n)), .inl (nI a)] M = some (some (.inl (nI (gpN v i n a))), M1) ∧ FC wsc M M1 ∧ WZ M1 := by
  have hc := wc.2 i hi
  have c62 := cS_62 hc
  obtain ⟨o, o1, o2⟩ := K_cA wc h c hi
  obtain ⟨A, B, a1, a2, b1, b2, b3, b4, b5, b6⟩ := K_stand hc h wz o2 (n := n) (by omega)
  obtain ⟨C, c1, c2⟩ := K_gap75 hc (o := o) (x1 := nI i) (l2 := lN n) (n := n) ha.2 hn (d3 := none) (r5 := some o) a 0 (by omega) b3 b4 b5 none none none none
  refine ⟨C, ?_, b2.tr c2.1, WZ.wf c2 b6⟩
  rw [C_X11_gap]
  simp only [c_sel h, Option.bind_some, o1, z_rR]
  rw [if_neg (by simp), if_neg (nI_nlt ha.1 (by omega)), if_neg (nI_nlt ha.2 (by omega))]
  simp only [lg_cmp_lt, o2.tt, Option.bind_some, lg_cmp_le, okI_S hc, pk_lLT (show n < 2 ^ 63 by omega) (show 0 < 2 ^ 63 by omega), nI_l (show a < 2 ^ 31 by omega), lN_sub (show 1 ≤ cS v i by omega), lN_sub (show a ≤ cS v i - 1 by omega), pk_lLE (show n < 2 ^ 63 by omega) (show cS v i - 1 - a < 2 ^ 63 by omega)]
  rw [if_neg (by omega), if_pos (by omega)]
  simp only [c_now h (show (1, 4, 25) ∈ q_crs by decide), Option.bind_some, w_sel h, a1, z_rV, c_now a2 (show (1, 4, 25) ∈ q_crs by decide), w_sel a2, b1, z_rL]
  exact c1
/-! the window -/
def CR (M : q_M) (b : Nat) (w : Nat → Int32) : Prop := ∀ j, j < 6 → gI M (b + 3) j = w j
theorem k_a5 {M : q_M} (h : SH M) {k : Nat} (hk : k < 6) : q_aI M 14 5 (nI k) = some (gI M 5 k) := y_aI h (by omega) (by omega) rfl hk (by decide)
theorem k_b5 {M : q_M} (h : SH M) {k : Nat} {x : Int32} (hk : k < 6) : q_bI M 14 5 (nI k) x = some (stI M 5 k x) := y_bI h (by omega) (by omega) rfl hk (by decide)
theorem K_corner {M : q_M} (h : SH M) {j : Nat} (hj : j = 0 ∨ j = 3) (x y z : Int32) : q_CL 59 [.inr (.inr (some 2)), .inl (nI j), .inl x, .inl y, .inl z] M = some (none, stI (stI (stI M 5 j x) 5 (j + 1) y) 5 (j + 2) z) := by
  have hA : SH (stI M 5 j x) := h
  have hB : SH (stI (stI M 5 j x) 5 (j + 1) y) := h
  rw [C_X8_setCorner]
  simp only [s_now h (show (2, 3, 5) ∈ q_crs by decide), Option.bind_some, k_b5 h (show j < 6 by omega), s_now hA (show (2, 3, 5) ∈ q_crs by decide), nI_add, k_b5 hA (show j + 1 < 6 by omega), s_now hB (show (2, 3, 5) ∈ q_crs by decide), k_b5 hB (show j + 2 < 6 by omega)]
theorem K_low {M : q_M} (h : SH M) (x y z : Int32) : q_CL 102 [.inr (.inr (some 1)), .inl x, .inl y, .inl z] M = some (none, stI (stI (stI M 5 0 x) 5 1 y) 5 2 z) := by
  rw [C_X11_low]
  simp only [c_now h (show (1, 0, 2) ∈ q_crs by decide), Option.bind_some, y_sel h (show 2 < 63 by omega) (show q_tgs.getD 2 0 = 8 from rfl), K_corner h (Or.inl rfl), z_rV]
theorem K_high {M : q_M} (h : SH M) (x y z : Int32) : q_CL 103 [.inr (.inr (some 1)), .inl x, .inl y, .inl z] M = some (none, stI (stI (stI M 5 3 x) 5 4 y) 5 5 z) := by
  rw [C_X11_high]
  simp only [c_now h (show (1, 0, 2) ∈ q_crs by decide), Option.bind_some, y_sel h (show 2 < 63 by omega) (show q_tgs.getD 2 0 = 8 from rfl), K_corner h (Or.inr rfl), z_rV]
theorem K_narrow {M : q_M} (h : SH M) {a : Nat} (ha : a < 3) (x y : Int32) : q_CL 69 [.inr (.inr (some 25)), .inl (nI a), .inl x, .inl y] M = some (none, stI (stI M 37 a x) 38 a y) := by
  have hA : SH (stI M 37 a x) := h
  rw [C_X10_narrow]
  simp only [w_f h (show (25, 5, 37) ∈ q_crs by decide), Option.bind_some, w_b3 h (Or.inl rfl) ha, w_f hA (show (25, 6, 38) ∈ q_crs by decide), w_b3 hA (Or.inr rfl) ha]
def w378 (a : Nat) : Prop := a = 37 ∨ a = 38
theorem K_eW58 {w : Nat → Int32} {r1 : Option Nat} : ∀ m a, a + m = 3 → ∀ {M : q_M}, SH M → CR M 2 w → (∀ b, b < a → w b ≤ w (3 + b) ∧ gI M 37 b = w b ∧ gI M 38 b = w (3 + b)) → (∃ M1, q_RL T_X11_enterWindow (58, [some (.inr (.inr (some 1))), some (.inr (.inr r1)), some (.inr (.inr (some 5))), some (.inl (nI a))], [], M) = some (some (.inl (nI 1)), M1) ∧ FC w378 M M1 ∧ ∀ b, b < 3 → w b ≤ w (3 + b) ∧ gI M1 37 b = w b ∧ gI M1 38 b = w (3 + b)) ∨ (∃ M1, q_RL T_X11_enterWindow (58, [some (.inr (.inr (some 1))), some (.inr (.inr r1)), some (.inr (.inr (some 5))), some (.inl (nI a))], [], M) = some (some (.inl (nI 0)), M1) ∧ FC w378 M M1 ∧ ∃ b, b < 3 ∧ ¬ w b ≤ w (3 + b)) := by
  have t0 : nI 0 = 0 ∨ nI 0 = 1 := Or.inl rfl
  have t1 : nI 1 = 0 ∨ nI 1 = 1 := Or.inr rfl
  intro m
  induction m with
  | zero =>
    intro a ha M h cr e
    left
    refine ⟨M, ?_, FC.rf _ M, fun b hb => e b (by omega)⟩
    rw [E_X11_enterWindow_58, if_pos (nI_le (by omega) (by omega)), if_pos t1]
  | succ m ih =>
    intro a ha M h cr e
    have a3 : a < 3 := by omega
    have e1 := cr a (by omega)
    have e2 := cr (a + 3) (by omega)
    have e1' : gI M 5 a = w a := e1
    have e2' : gI M 5 (a + 3) = w (3 + a) := by rw [Nat.add_comm 3 a]; exact e2
    rw [E_X11_enterWindow_58, if_neg (nI_ge a3 (by omega))]
    simp only [Option.bind_some, k_a5 h (show a < 6 by omega), e1', nI_add, k_a5 h (show a + 3 < 6 by omega), e2', if_pos t0]
    by_cases c : w a ≤ w (3 + a)
    · rw [if_pos c]
      simp only [c_now h (show (1, 4, 25) ∈ q_crs by decide), Option.bind_some, w_sel h, K_narrow h a3, z_rV, nI_1]
      have fA : FC w378 M (stI (stI M 37 a (w a)) 38 a (w (3 + a))) := ((FC.rf w378 M).sI (Or.inl rfl)).sI (Or.inr rfl)
      rcases ih (a + 1) (by omega) (M := stI (stI M 37 a (w a)) 38 a (w (3 + a))) h (fun j hj => (gI_oth (by omega)).trans ((gI_oth (by omega)).trans (cr j hj))) (fun b hb => by
        by_cases q : b = a
        · subst q
          exact ⟨c, by rw [gI_oth (by omega), gI_self], gI_self⟩
        · obtain ⟨z1, z2, z3⟩ := e b (by omega)
          exact ⟨z1, by rw [gI_oth (by omega), gI_oth (by omega)]; exact z2, by rw [gI_oth (by omega), gI_oth (by omega)]; exact z3⟩) with ⟨M1, u1, u2, u3⟩ | ⟨M1, u1, u2, u3⟩
      · exact Or.inl ⟨M1, u1, fA.tr u2, u3⟩
      · exact Or.inr ⟨M1, u1, fA.tr u2, u3⟩
    · right
      rw [if_neg c]
      exact ⟨M, rfl, FC.rf _ M, a, a3, c⟩
theorem K_eW {v : Nat → Nat} {i : Nat} (hc : okI v i) {M : q_M} (h : SH M) (wz : WZ M) {w : Nat → Int32} (cr : CR M 2 w) {o : Nat} (co : CO M o (cK v i) (cD v i) (cL v i) i) : (∃ lo hi M1, isW v i w lo hi ∧ q_CL 109 [.inr (.inr (some 1)), .inr (.inr (some o))] M = some (some (.inl (nI 1)), M1) ∧ FC wsc M M1 ∧ WK M1 o (cK v i) (cD v i) (cL v i) i ∧ WD M1 (cmI v i) 0 0 ∧ WV M1 lo hi) ∨ (¬ (∃ lo hi, isW v i w lo hi) ∧ ∃ M1, q_CL 109 [.inr (.inr (some 1)), .inr (.inr (some o))] M = some (some (.inl (nI 0)), M1) ∧ FC wsc M M1 ∧ WZ M1) := by
  have t0 : nI 0 = 0 ∨ nI 0 = 1 := Or.inl rfl
  have rm := fun a ha => room_le hc (a := a) ha
  rw [C_X11_enterWindow]
  rw [if_neg (by simp)]
  have e : ∀ j, j < 6 → gI M 5 j = w j := cr
  simp only [c_now h (show (1, 0, 2) ∈ q_crs by decide), s_now h (show (2, 3, 5) ∈ q_crs by decide), Option.bind_some, k_a5 h (show 0 < 6 by omega), k_a5 h (show 1 < 6 by omega), k_a5 h (show 2 < 6 by omega), k_a5 h (show 3 < 6 by omega), k_a5 h (show 4 < 6 by omega), k_a5 h (show 5 < 6 by omega), e 0 (by omega), e 1 (by omega), e 2 (by omega), e 3 (by omega), e 4 (by omega), e 5 (by omega), co.s4, if_pos t0]
  rcases K_holds co (fun a ha => by have := rm a ha; omega) (w 0) (w 1) (w 2) with ⟨n, k⟩ | ⟨⟨lo, l1, l2, l3, l4⟩, k⟩
  · right
    refine ⟨?_, M, by rw [k]; rfl, FC.rf _ M, wz⟩
    rintro ⟨lo, hi, z⟩
    exact n ⟨lo, fun a ha => by have := z a ha; omega, (z 0 (by omega)).1, (z 1 (by omega)).1, (z 2 (by omega)).1⟩
  rw [k]
  simp only [z_rI, Option.bind_some]
  rw [if_neg (show ¬ nI 1 = 0 by decide +kernel)]
  simp only [co.s4, Option.bind_some, k_a5 h (show 3 < 6 by omega), k_a5 h (show 4 < 6 by omega), k_a5 h (show 5 < 6 by omega), e 3 (by omega), e 4 (by omega), e 5 (by omega)]
  rcases K_holds co (fun a ha => by have := rm a ha; omega) (w 3) (w 4) (w 5) with ⟨n, k⟩ | ⟨⟨hi, h1, h2, h3, h4⟩, k⟩
  · right
    refine ⟨?_, M, by rw [k]; rfl, FC.rf _ M, wz⟩
    rintro ⟨lo, hi, z⟩
    exact n ⟨hi, fun a ha => (z a ha).2.2.2, (z 0 (by omega)).2.1, (z 1 (by omega)).2.1, (z 2 (by omega)).2.1⟩
  rw [k]
  simp only [z_rI, Option.bind_some]
  rw [if_neg (show ¬ nI 1 = 0 by decide +kernel)]
  obtain ⟨A, a1, a2, a3, a4, a5⟩ := K_enter h co hc.1 wz.1 wz.2
  simp only [c_now h (show (1, 4, 25) ∈ q_crs by decide), Option.bind_some, w_sel h, a1, z_rV]
  have crA : CR A 2 w := fun j hj => (a2.2.2.2.1 5 j (by unfold wsc; omega)).1.trans (cr j hj)
  have wl : ∀ a, a < 3 → w a = nI (lo a) := fun a ha => by
    rcases (show a = 0 ∨ a = 1 ∨ a = 2 by omega) with rfl | rfl | rfl
    · exact l2
    · exact l3
    · exact l4
  have wh : ∀ a, a < 3 → w (3 + a) = nI (hi a) := fun a ha => by
    rcases (show a = 0 ∨ a = 1 ∨ a = 2 by omega) with rfl | rfl | rfl
    · exact h2
    · exact h3
    · exact h4
  rcases K_eW58 (w := w) (r1 := some o) 3 0 (by omega) a3.1 crA (fun b hb => by omega) with ⟨B, u1, u2, u3⟩ | ⟨B, u1, u2, b, hb, u3⟩
  · left
    have u2' : FC wsc A B := u2.wk fun a z => by unfold w378 at z; unfold wsc; omega
    refine ⟨lo, hi, B, fun a ha => ⟨wl a ha, wh a ha, ?_, h1 a ha⟩, u1, a2.tr u2', ⟨u2'.sh a3.1, a3.2.1.fc u2' wsc_ok, (u2.2.2.2.1 25 7 (by unfold w378; omega)).2.2.trans a3.2.2.1, (u2.2.2.2.1 25 8 (by unfold w378; omega)).1.trans a3.2.2.2⟩, ⟨fun a ha => ⟨(u2.2.2.2.1 _ 0 (by unfold w378; omega)).1.trans (a4.1 a ha).1, (u2.2.2.2.1 _ 0 (by unfold w378; omega)).1.trans (a4.1 a ha).2⟩, (u2.2.2.2.1 34 0 (by unfold w378; omega)).1.trans a4.2.1, (u2.2.2.2.1 35 0 (by unfold w378; omega)).2.1.trans a4.2.2⟩, fun a ha => ⟨(u3 a ha).2.1.trans (wl a ha), (u3 a ha).2.2.trans (wh a ha)⟩⟩
    have := (u3 a ha).1
    rw [wl a ha, wh a ha] at this
    exact (nI_leI (by have := rm a ha; have := l1 a ha; omega) (by have := rm a ha; have := h1 a ha; omega)).mp this
  · right
    refine ⟨?_, B, u1, a2.tr (u2.wk fun a z => by unfold w378 at z; unfold wsc; omega), WZ.fc u2 (by unfold w378; omega) (WZ.wd a4)⟩
    rintro ⟨lo', hi', z⟩
    obtain ⟨z1, z2, z3, z4⟩ := z b hb
    apply u3
    rw [z1, z2]
    exact nI_le z3 (by have := rm b hb; omega)
theorem isW_u {v : Nat → Nat} {i : Nat} (hc : okI v i) {w : Nat → Int32} {lo hi lo' hi' : Nat → Nat} (a : isW v i w lo hi) (b : isW v i w lo' hi') : ∀ x, x < 3 → lo' x = lo x ∧ hi' x = hi x := fun x hx => by
  obtain ⟨a1, a2, a3, a4⟩ := a x hx
  obtain ⟨b1, b2, b3, b4⟩ := b x hx
  have := room_le hc hx
  exact ⟨(nI_eq (by omega) (by omega)).mp (b1.symm.trans a1), (nI_eq (by omega) (by omega)).mp (b2.symm.trans a2)⟩
theorem K_eW0 {M : q_M} : q_CL 109 [.inr (.inr (some 1)), .inr (.inr none)] M = some (some (.inl (nI 0)), M) := by
  rw [C_X11_enterWindow, if_pos rfl, if_pos (show nI 0 = 0 ∨ nI 0 = 1 from Or.inl rfl)]
