/-! ===== THE CLASS: mean, compare ===== -/
theorem K_st {v : Nat → Nat} {i : Nat} (hi : i < 8) (hc : okI v i) (hd : cD v i = 2) {s w h : Nat} (s1 : 1 ≤ s) (s64 : s ≤ 64) (r0 : s ≤ cB (cK v i) ^ cL v i 0) (r1 : s ≤ cB (cK v i) ^ cL v i 1) (w1 : 1 ≤ w) (hw : w ≤ s) (h1 : 1 ≤ h) (hh : h ≤ s) {M : q_M} (hM : SH M) (wz : WZ M) {o : Nat} (co : CO M o (cK v i) (cD v i) (cL v i) i) : ∃ M1, q_CL 123 [.inr (.inr (some 1)), .inr (.inr (some o)), .inl (nI s), .inl (nI w), .inl (nI h)] M = some (some (.inr (.inl (lN (mO v i s w h s)))), M1) ∧ FC wsc M M1 ∧ WZ M1 := by
  have c62 := cS_62 hc
  have ss : 1 * 1 ≤ s * s := Nat.mul_le_mul s1 s1
  obtain ⟨A, a1, a2, a3, a4, a5⟩ := K_enter hM co hc.1 wz.1 wz.2
  have hA := a3.1
  have hB : SH (stI (stI A 37 0 (nI 0)) 38 0 (nI (s - 1))) := hA
  have fC : FC w378 A (stI (stI (stI (stI A 37 0 (nI 0)) 38 0 (nI (s - 1))) 37 1 (nI 0)) 38 1 (nI (s - 1))) := ((((FC.rf w378 A).sI (Or.inl rfl)).sI (Or.inr rfl)).sI (Or.inl rfl)).sI (Or.inr rfl)
  have wvC : WV (stI (stI (stI (stI A 37 0 (nI 0)) 38 0 (nI (s - 1))) 37 1 (nI 0)) 38 1 (nI (s - 1))) (fun _ => 0) (sqH v i s) := fun a ha => by
    have z := a5 a ha
    simp only [gI_stI]
    rcases (show a = 0 ∨ a = 1 ∨ a = 2 by omega) with rfl | rfl | rfl
    · exact ⟨rfl, rfl⟩
    · exact ⟨rfl, rfl⟩
    · exact ⟨z.1, z.2⟩
  have sC : q_CL 69 [.inr (.inr (some 25)), .inl (nI 1), .inl (nI 0), .inl (nI (s - 1))] (stI (stI A 37 0 (nI 0)) 38 0 (nI (s - 1))) = some (none, stI (stI (stI (stI A 37 0 (nI 0)) 38 0 (nI (s - 1))) 37 1 (nI 0)) 38 1 (nI (s - 1))) := K_narrow hB (by omega) _ _
  generalize stI (stI (stI (stI A 37 0 (nI 0)) 38 0 (nI (s - 1))) 37 1 (nI 0)) 38 1 (nI (s - 1)) = C at *
  have fC' : FC wsc A C := fC.wk fun a z => by unfold w378 at z; unfold wsc; omega
  have hC := fC.sh hA
  have wkC : WK C o (cK v i) (cD v i) (cL v i) i := ⟨hC, a3.2.1.fc fC' wsc_ok, (fC.2.2.2.1 25 7 (by unfold w378; omega)).2.2.trans a3.2.2.1, (fC.2.2.2.1 25 8 (by unfold w378; omega)).1.trans a3.2.2.2⟩
  have wdC : WD C (cmI v i) 0 0 := ⟨fun a ha => ⟨(fC.2.2.2.1 _ 0 (by unfold w378; omega)).1.trans (a4.1 a ha).1, (fC.2.2.2.1 _ 0 (by unfold w378; omega)).1.trans (a4.1 a ha).2⟩, (fC.2.2.2.1 34 0 (by unfold w378; omega)).1.trans a4.2.1, (fC.2.2.2.1 35 0 (by unfold w378; omega)).2.1.trans a4.2.2⟩
  have S1 : 0 < cS v i := by rw [← okI_S hc]; exact Nat.pow_pos (by have := cB_2 (cK v i); omega)
  obtain ⟨q, D, u1, u2, u3, u4⟩ := K_seek (c := o) (i := i) hc.1 (o := 1) (Or.inr rfl) (sq_w hc s1 s64) wkC wvC wdC (f := 0) (by rw [okI_S hc]; exact S1) (by rw [okI_S hc]; omega)
  rw [okI_S hc] at u2
  have cq : sm (sqQ v i s) (cS v i) = s * s := sq_cnt hi hc hd r0 r1
  have mS := mO_sum hi hc hd r0 r1 w1 hw h1 hh
  have mS' : mO v i s w h s + sm (sqG v i s w h) (cS v i) = (s - w + 1) * (s - h + 1) * w * h := by
    have e : (s - w + 1) * w * ((s - h + 1) * h) = (s - w + 1) * (s - h + 1) * w * h := by ac_rfl
    rw [← e]
    exact mS
  cases q with
  | none =>
    exfalso
    have z : sm (sqQ v i s) (cS v i) = sm (sqQ v i s) 0 := sm_z2 (by omega) (fun x hx1 hx2 => by
      unfold sqQ
      rw [if_neg]
      intro z
      exact u2 x hx1 hx2 ((sq_pr hc s1 hx2).mpr z))
    have : sm (sqQ v i s) 0 = 0 := rfl
    omega
  | some N =>
    obtain ⟨n1, n2, n3, n4⟩ := u2
    have qN : isq v i s N = true := (sq_pr hc s1 n2).mp n3
    have bz : ∀ x, x < N → ¬ isq v i s x = true := fun x h2 z => n4 x (by omega) h2 ((sq_pr hc s1 (by omega)).mpr z)
    have eQ : sm (sqQ v i s) (N + 1) = 1 := by
      have z : sm (sqQ v i s) N = sm (sqQ v i s) 0 := sm_z2 (by omega) (fun x hx1 hx2 => by unfold sqQ; rw [if_neg (bz x hx2)])
      have z0 : sm (sqQ v i s) 0 = 0 := rfl
      show sm (sqQ v i s) N + sqQ v i s N = _
      have : sqQ v i s N = 1 := by unfold sqQ; rw [if_pos qN]
      omega
    have eG : sm (sqG v i s w h) (N + 1) = 0 := by
      have z : sm (sqG v i s w h) N = sm (sqG v i s w h) 0 := sm_z2 (by omega) (fun x hx1 hx2 => by unfold sqG; rw [if_neg (bz x hx2)])
      have z0 : sm (sqG v i s w h) 0 = 0 := rfl
      show sm (sqG v i s w h) N + sqG v i s w h N = _
      have : sqG v i s w h N = 0 := by
        unfold sqG sqF
        rw [if_pos qN]
        by_cases c : N = 0
        · rw [if_pos c]
        · rw [if_neg c, if_neg]
          intro z
          exact bz (N - 1) (by omega) (decide_eq_true z)
      omega
    obtain ⟨E, t1, t2⟩ := K_st69 hi hc hd s1 s64 r0 r1 w1 hw h1 hh (o := o) (T := (s - w + 1) * (s - h + 1) * w * h) (q1 := some o) (by omega) (s * s - 1) 1 (by omega) N n2 qN eQ (u3.wk wkC) (u3.wv wvC) (u4 _ rfl) none none none none none none
    refine ⟨E, ?_, (a2.tr fC').tr (u3.tr t2).1, WZ.wf (u3.tr t2) (WZ.wd wdC)⟩
    rw [eG, Nat.sub_zero, ← mS', Nat.add_sub_cancel] at t1
    rw [C_X11_spansTogether]
    simp only [c_now hM (show (1, 4, 25) ∈ q_crs by decide), Option.bind_some, w_sel hM, a1, z_rV, c_now hA (show (1, 4, 25) ∈ q_crs by decide), w_sel hA, pk_sub s1, K_narrow hA (show 0 < 3 by omega), c_now hB (show (1, 4, 25) ∈ q_crs by decide), w_sel hB, sC, c_now hC (show (1, 4, 25) ∈ q_crs by decide), w_sel hC, u1, z_rL, pk_sub hw, pk_sub hh, nI_add, nI_l (show s - w + 1 < 2 ^ 31 by omega), nI_l (show s - h + 1 < 2 ^ 31 by omega), nI_l (show w < 2 ^ 31 by omega), nI_l (show h < 2 ^ 31 by omega), lN_mul]
    rw [← mS']
    exact t1
theorem K_gd {M : q_M} {a b : Nat} (ha : a < 2 ^ 62) (hb : b < 2 ^ 13) : q_CL 125 [.inr (.inl (lN a)), .inr (.inl (lN b))] M = some (some (.inr (.inl (lN (Nat.gcd a b)))), M) := by
  rw [C_X11_greatestDivisor]
  have key : ∀ n x y k, y < 2 ^ n → n ≤ 13 → k + 2 * n ≤ 99 → x < 2 ^ 62 → ∀ d1 d3 d5 d7 d9 d10, q_RL T_X11_greatestDivisor (9, [some (.inr (.inl (lN a))), d1, some (.inr (.inl (lN b))), d3, some (.inr (.inl (lN x))), d5, some (.inr (.inl (lN y))), d7, some (.inl (nI k)), d9, d10], [], M) = some (some (.inr (.inl (lN (Nat.gcd x y)))), M) := by
    intro n
    induction n with
    | zero =>
      intro x y k hy _ hk hx d1 d3 d5 d7 d9 d10
      have y0 : y = 0 := by omega
      subst y0
      rw [E_X11_greatestDivisor_9, if_neg (nI_ge (by omega) (by omega)), Nat.gcd_zero_right]
      simp only [lg_cmp_le, pk_lLE (show 0 < 2 ^ 63 by omega) (show 0 < 2 ^ 63 by omega)]
      rw [if_pos (Nat.le_refl _)]
    | succ n ih =>
      intro x y k hy hn hk hx d1 d3 d5 d7 d9 d10
      have p13 : 2 ^ (n + 1) ≤ 2 ^ 13 := Nat.pow_le_pow_right (by omega) hn
      rw [E_X11_greatestDivisor_9, if_neg (nI_ge (by omega) (by omega))]
      simp only [lg_cmp_le, pk_lLE (show y < 2 ^ 63 by omega) (show 0 < 2 ^ 63 by omega)]
      by_cases c : y = 0
      · rw [if_pos (by omega), c, Nat.gcd_zero_right]
      have c2 : ¬ lN y = 0 := fun z => c ((pk_lEQ (show y < 2 ^ 63 by omega) (show 0 < 2 ^ 63 by omega)).mp z)
      have ml := Nat.mod_lt x (show y > 0 by omega)
      have g1 : Nat.gcd x y = Nat.gcd y (x % y) := by rw [Nat.gcd_comm x y, Nat.gcd_rec y x, Nat.gcd_comm]
      rw [if_neg (by omega), if_neg c2, pk_lRem (by omega) (by omega) (by omega), nI_1, g1, E_X11_greatestDivisor_9, if_neg (nI_ge (by omega) (by omega))]
      generalize x % y = r at *
      simp only [lg_cmp_le, pk_lLE (show r < 2 ^ 63 by omega) (show 0 < 2 ^ 63 by omega)]
      by_cases e : r = 0
      · rw [if_pos (by omega), e, Nat.gcd_zero_right]
      have e2 : ¬ lN r = 0 := fun z => e ((pk_lEQ (show r < 2 ^ 63 by omega) (show 0 < 2 ^ 63 by omega)).mp z)
      have ml2 := Nat.mod_lt y (show r > 0 by omega)
      have g2 : Nat.gcd y r = Nat.gcd r (y % r) := by rw [Nat.gcd_comm y r, Nat.gcd_rec r y, Nat.gcd_comm]
      have hv : y % r + r ≤ y := by
        have a1 := Nat.div_add_mod y r
        have a2 : 1 ≤ y / r := (Nat.one_le_div_iff (by omega)).mpr (by omega)
        have a3 : r * 1 ≤ r * (y / r) := Nat.mul_le_mul_left r a2
        omega
      have p2 : 2 ^ (n + 1) = 2 * 2 ^ n := by rw [Nat.pow_succ, Nat.mul_comm]
      rw [if_neg (by omega), if_neg e2, pk_lRem (by omega) (by omega) (by omega), nI_1, g2]
      exact ih r (y % r) (k + 1 + 1) (by omega) (by omega) (by omega) (by omega) _ _ _ _ _ _
  exact key 13 a b 0 hb (by omega) (by omega) ha none none none none none none
/-- a square that has a mean, of a curve's object -/
def meO (v : Nat → Nat) (i : Nat) (x2 x3 x4 : Int32) (s w h : Nat) : Prop := cD v i = 2 ∧ x2 = nI s ∧ 1 ≤ s ∧ s ≤ 64 ∧ s ≤ cB (cK v i) ^ cL v i 0 ∧ s ≤ cB (cK v i) ^ cL v i 1 ∧ x3 = nI w ∧ 1 ≤ w ∧ w ≤ s ∧ x4 = nI h ∧ 1 ≤ h ∧ h ≤ s
theorem meO_C {v : Nat → Nat} {i : Nat} (hi : i < v 0) {x2 x3 x4 : Int32} {s w h : Nat} (m : meO v i x2 x3 x4 s w h) : meC v (nI i) x2 x3 x4 i s w h := ⟨hi, rfl, m⟩
theorem K_hm0 {M : q_M} {x2 x3 x4 : Int32} : q_CL 122 [.inr (.inr none), .inl x2, .inl x3, .inl x4] M = some (some (.inl (nI 0)), M) := by
  rw [C_X11_hasMean, if_pos rfl, if_pos (show nI 0 = 0 ∨ nI 0 = 1 from Or.inl nI_0)]
theorem K_hm {v : Nat → Nat} {i : Nat} (hc : okI v i) {M : q_M} {o : Nat} (co : CO M o (cK v i) (cD v i) (cL v i) i) (x2 x3 x4 : Int32) : (¬ (∃ s w h, meO v i x2 x3 x4 s w h) ∧ q_CL 122 [.inr (.inr (some o)), .inl x2, .inl x3, .inl x4] M = some (some (.inl (nI 0)), M)) ∨ ((∃ s w h, meO v i x2 x3 x4 s w h) ∧ q_CL 122 [.inr (.inr (some o)), .inl x2, .inl x3, .inl x4] M = some (some (.inl (nI 1)), M)) := by
  have t0 : nI 0 = 0 ∨ nI 0 = 1 := Or.inl rfl
  have t1 : nI 1 = 0 ∨ nI 1 = 1 := Or.inr rfl
  obtain ⟨rm, f3, ar⟩ := co.rm
  have hd := hc.1.2.1
  rw [C_X11_hasMean, if_neg (by simp)]
  simp only [if_pos t0, if_pos t1, Option.bind_some, co.f1, f3, ar 0 (by omega), ar 1 (by omega), nI_eq (show cD v i < 2 ^ 31 by omega) (show 2 < 2 ^ 31 by omega)]
  by_cases d2 : cD v i = 2
  rotate_left
  · left
    rw [if_neg d2]
    exact ⟨fun ⟨s, w, h, m⟩ => d2 m.1, rfl⟩
  rw [if_pos d2]
  rcases rg2 x2 (show 64 + 1 < 2 ^ 31 by omega) (show 1 ≤ 64 by omega) with z | ⟨z1, z2⟩ | ⟨s, hs1, hs2, rfl, z1, z2⟩
  · left
    refine ⟨?_, if_pos z⟩
    rintro ⟨s, w, h, _, rfl, a, b, _⟩
    exact nI_nlt a (by omega) z
  · left
    refine ⟨?_, by rw [if_neg z1, if_pos z2]⟩
    rintro ⟨s, w, h, _, rfl, a, b, _⟩
    exact nI_nlt b (by omega) z2
  rw [if_neg z1, if_neg z2]
  have rm0 := room_le hc (show 0 < 3 by omega)
  have rm1 := room_le hc (show 1 < 3 by omega)
  have sq : ∀ s', s' ≤ 64 → nI s = nI s' → s' = s := fun s' h1 h2 => ((nI_eq (by omega) (by omega)).mp h2).symm
  by_cases c0 : s ≤ cB (cK v i) ^ cL v i 0
  rotate_left
  · left
    rw [if_pos (nI_lt (by omega) (by omega))]
    refine ⟨?_, rfl⟩
    rintro ⟨s', w, h, _, c, _, d, ee, _⟩
    have := sq s' d c
    subst this
    exact c0 ee
  rw [if_neg (nI_nlt c0 (by omega))]
  by_cases c1 : s ≤ cB (cK v i) ^ cL v i 1
  rotate_left
  · left
    rw [if_neg (nI_ge (by omega) (by omega))]
    refine ⟨?_, rfl⟩
    rintro ⟨s', w, h, _, c, _, d, _, ee, _⟩
    have := sq s' d c
    subst this
    exact c1 ee
  rw [if_pos (nI_le c1 (by omega))]
  rcases rg2 x3 (lo := 1) (hi := s) (by omega) hs1 with z | ⟨z1, z2⟩ | ⟨w, hw1, hw2, rfl, z1, z2⟩
  · left
    refine ⟨?_, if_pos z⟩
    rintro ⟨s', w, h, _, _, _, s64, _, _, rfl, a, b, _⟩
    exact nI_nlt a (by omega) z
  · left
    refine ⟨?_, by rw [if_neg z1, if_pos z2]⟩
    rintro ⟨s', w, h, _, c, _, d, _, _, rfl, a, b, _⟩
    have := sq s' d c
    subst this
    exact nI_nlt b (by omega) z2
  rw [if_neg z1, if_neg z2]
  rcases rg2 x4 (lo := 1) (hi := s) (by omega) hs1 with z | ⟨z1, z2⟩ | ⟨u, hu1, hu2, rfl, z1, z2⟩
  · left
    refine ⟨?_, if_pos z⟩
    rintro ⟨s', w, h, _, _, _, s64, _, _, _, _, _, rfl, a, b⟩
    exact nI_nlt a (by omega) z
  · left
    refine ⟨?_, by rw [if_neg z1, if_pos z2]⟩
    rintro ⟨s', w, h, _, c, _, d, _, _, _, _, _, rfl, a, b⟩
    have := sq s' d c
    subst this
    exact nI_nlt b (by omega) z2
  right
  rw [if_neg z1, if_neg z2]
  exact ⟨⟨s, w, u, d2, rfl, hs1, hs2, c0, c1, rfl, hw1, hw2, rfl, hu1, hu2⟩, rfl⟩
theorem K_mean_no {v : Nat → Nat} (wc : WC v) {M : q_M} (h : SH M) (c : CS M 2 v) {x1 x2 x3 x4 x5 : Int32} (n : ¬ (∃ i s w h t, meC v x1 x2 x3 x4 i s w h ∧ x5 = nI t ∧ t ≤ 3)) : q_CL 120 [.inr (.inr (some 1)), .inl x1, .inl x2, .inl x3, .inl x4, .inl x5] M = some (some (.inr (.inl (-1))), M) := by
  rw [C_X11_mean]
  simp only [c_sel h, Option.bind_some]
  by_cases hx : ∃ i, i < v 0 ∧ x1 = nI i
  · obtain ⟨i, hi, rfl⟩ := hx
    obtain ⟨o, o1, o2⟩ := K_cA wc h c hi
    have hc := wc.2 i hi
    rw [o1]
    simp only [z_rR, Option.bind_some]
    rcases K_hm hc o2 x2 x3 x4 with ⟨n1, e⟩ | ⟨⟨s, w, u, m⟩, e⟩
    · rw [e]; rfl
    rw [e]
    simp only [z_rI, Option.bind_some]
    rw [if_neg (show ¬ nI 1 = 0 by decide +kernel)]
    by_cases z0 : x5 < 0
    · rw [if_pos z0]
    rw [if_neg z0, if_neg]
    intro z
    obtain ⟨t, ht, rfl⟩ := nI_of z0
    exact n ⟨i, s, w, u, t, meO_C hi m, rfl, (nI_leI (by omega) (by omega)).mp z⟩
  · rw [K_cA_no wc h c hx]
    simp only [z_rR, Option.bind_some, K_hm0, z_rI]
    rw [if_pos nI_0]
theorem K_mean {v : Nat → Nat} (wc : WC v) {M : q_M} (h : SH M) (c : CS M 2 v) (wz : WZ M) {x1 x2 x3 x4 : Int32} {i s w u t : Nat} (m : meC v x1 x2 x3 x4 i s w u) (ht : t ≤ 3) : ∃ M1, q_CL 120 [.inr (.inr (some 1)), .inl x1, .inl x2, .inl x3, .inl x4, .inl (nI t)] M = some (some (.inr (.inl (lN (meA v i s w u t)))), M1) ∧ FC wsc M M1 ∧ WZ M1 := by
  have v8 := wc.1
  obtain ⟨hi, rfl, mo⟩ := m
  obtain ⟨o, o1, o2⟩ := K_cA wc h c hi
  have hc := wc.2 i hi
  have e : q_CL 122 [.inr (.inr (some o)), .inl x2, .inl x3, .inl x4] M = some (some (.inl (nI 1)), M) := by
    rcases K_hm hc o2 x2 x3 x4 with ⟨n1, _⟩ | ⟨_, e⟩
    · exact absurd ⟨s, w, u, mo⟩ n1
    · exact e
  obtain ⟨d2, rfl, s1, s64, r0, r1, rfl, w1, ws, rfl, u1, us⟩ := mo
  obtain ⟨M1, k1, k2, k3⟩ := K_st (by omega) hc d2 s1 s64 r0 r1 w1 ws u1 us h wz o2
  have bO := mO_b2 v i s w u s64 s s64
  have bW := Nat.mul_le_mul (show s - w + 1 ≤ 64 by omega) (show s - u + 1 ≤ 64 by omega)
  have pW : 0 < (s - w + 1) * (s - u + 1) := Nat.mul_pos (by omega) (by omega)
  have gp : 0 < Nat.gcd (mO v i s w u s) ((s - w + 1) * (s - u + 1)) := Nat.gcd_pos_of_pos_right _ pW
  have gl : Nat.gcd (mO v i s w u s) ((s - w + 1) * (s - u + 1)) ≤ (s - w + 1) * (s - u + 1) := Nat.gcd_le_right _ pW
  have gz : ¬ lN (Nat.gcd (mO v i s w u s) ((s - w + 1) * (s - u + 1))) = 0 := fun z => by
    have := (pk_lEQ (show Nat.gcd (mO v i s w u s) ((s - w + 1) * (s - u + 1)) < 2 ^ 63 by omega) (show 0 < 2 ^ 63 by omega)).mp z
    omega
  by_cases t0 : t = 0
  · refine ⟨M, ?_, FC.rf _ M, wz⟩
    rw [C_X11_mean]
    simp only [c_sel h, Option.bind_some, o1, z_rR, e, z_rI]
    subst t0
    rw [if_neg (show ¬ nI 1 = 0 by decide +kernel), if_neg (nI_pos (by omega)), if_pos (nI_le (by omega) (by omega)), if_pos nI_0]
    simp only [pk_sub ws, pk_sub us, nI_add, nI_l (show s - w + 1 < 2 ^ 31 by omega), nI_l (show s - u + 1 < 2 ^ 31 by omega), lN_mul]
    rfl
  refine ⟨M1, ?_, k2, k3⟩
  rw [C_X11_mean]
  simp only [c_sel h, Option.bind_some, o1, z_rR, e, z_rI]
  rw [if_neg (show ¬ nI 1 = 0 by decide +kernel), if_neg (nI_pos (by omega)), if_pos (nI_le ht (by omega)), if_neg (nI_ne0 (by omega) (by omega))]
  simp only [k1, z_rL, Option.bind_some, pk_sub ws, pk_sub us, nI_add, nI_l (show s - w + 1 < 2 ^ 31 by omega), nI_l (show s - u + 1 < 2 ^ 31 by omega), lN_mul, nI_eq (show t < 2 ^ 31 by omega) (show 1 < 2 ^ 31 by omega), nI_eq (show t < 2 ^ 31 by omega) (show 2 < 2 ^ 31 by omega), K_gd (M := M1) (show mO v i s w u s < 2 ^ 62 by omega) (show (s - w + 1) * (s - u + 1) < 2 ^ 13 by omega), lg_cmp_ge, pk_lLE (show 1 < 2 ^ 63 by omega) (show Nat.gcd (mO v i s w u s) ((s - w + 1) * (s - u + 1)) < 2 ^ 63 by omega), if_neg gz, if_pos (show 1 ≤ Nat.gcd (mO v i s w u s) ((s - w + 1) * (s - u + 1)) from gp), pk_lDiv (show mO v i s w u s < 2 ^ 63 by omega) gp (show Nat.gcd (mO v i s w u s) ((s - w + 1) * (s - u + 1)) < 2 ^ 63 by omega), pk_lDiv (show (s - w + 1) * (s - u + 1) < 2 ^ 63 by omega) gp (show Nat.gcd (mO v i s w u s) ((s - w + 1) * (s - u + 1)) < 2 ^ 63 by omega)]
  unfold meA
  by_cases t1 : t = 1
  · simp only [if_neg t0, if_pos t1]
  by_cases t2 : t = 2
  · simp only [if_neg t0, if_neg t1, if_pos t2]
  simp only [if_neg t0, if_neg t1, if_neg t2]
theorem K_cmp_no {v : Nat → Nat} (wc : WC v) {M : q_M} (h : SH M) (c : CS M 2 v) {x1 x2 x3 x4 x5 : Int32} (n : ¬ (∃ i j s w h, meC v x1 x3 x4 x5 i s w h ∧ meC v x2 x3 x4 x5 j s w h)) : q_CL 121 [.inr (.inr (some 1)), .inl x1, .inl x2, .inl x3, .inl x4, .inl x5] M = some (some (.inl (-2)), M) := by
  rw [C_X11_compare]
  simp only [c_sel h, Option.bind_some]
  by_cases hx : ∃ i, i < v 0 ∧ x1 = nI i
  · obtain ⟨i, hi, rfl⟩ := hx
    obtain ⟨o, o1, o2⟩ := K_cA wc h c hi
    have hc := wc.2 i hi
    rw [o1]
    simp only [z_rR, Option.bind_some, c_sel h]
    by_cases hy : ∃ j, j < v 0 ∧ x2 = nI j
    · obtain ⟨j, hj, rfl⟩ := hy
      obtain ⟨p, p1, p2⟩ := K_cA wc h c hj
      have hc2 := wc.2 j hj
      rw [p1]
      simp only [z_rR, Option.bind_some]
      rcases K_hm hc o2 x3 x4 x5 with ⟨n1, e⟩ | ⟨⟨s, w, u, m⟩, e⟩
      · rw [e]; rfl
      rw [e]
      simp only [z_rI, Option.bind_some]
      rw [if_neg (show ¬ nI 1 = 0 by decide +kernel)]
      rcases K_hm hc2 p2 x3 x4 x5 with ⟨n1, e'⟩ | ⟨⟨s', w', u', m'⟩, e'⟩
      · rw [e']; rfl
      exfalso
      apply n
      have m0 := m
      have m1 := m'
      obtain ⟨_, q1, _, s64, _, _, q2, _, ws, q3, _, us⟩ := m
      obtain ⟨_, q1', _, s64', _, _, q2', _, ws', q3', _, us'⟩ := m'
      have es : s' = s := (nI_eq (by omega) (by omega)).mp (q1'.symm.trans q1)
      have ew : w' = w := (nI_eq (by omega) (by omega)).mp (q2'.symm.trans q2)
      have eu : u' = u := (nI_eq (by omega) (by omega)).mp (q3'.symm.trans q3)
      subst es
      subst ew
      subst eu
      exact ⟨i, j, s', w', u', meO_C hi m0, meO_C hj m1⟩
    · rw [K_cA_no wc h c hy]
      simp only [z_rR, Option.bind_some]
      rcases K_hm hc o2 x3 x4 x5 with ⟨n1, e⟩ | ⟨⟨s, w, u, m⟩, e⟩
      · rw [e]; rfl
      rw [e]
      simp only [z_rI, Option.bind_some]
      rw [if_neg (show ¬ nI 1 = 0 by decide +kernel)]
      simp only [K_hm0, z_rI, Option.bind_some]
      rw [if_pos nI_0]
  · rw [K_cA_no wc h c hx]
    simp only [z_rR, Option.bind_some, c_sel h]
    by_cases hy : ∃ j, j < v 0 ∧ x2 = nI j
    · obtain ⟨j, hj, rfl⟩ := hy
      obtain ⟨p, p1, p2⟩ := K_cA wc h c hj
      rw [p1]
      simp only [z_rR, Option.bind_some, K_hm0, z_rI]
      rw [if_pos nI_0]
    · rw [K_cA_no wc h c hy]
      simp only [z_rR, Option.bind_some, K_hm0, z_rI]
      rw [if_pos nI_0]
theorem K_cmp {v : Nat → Nat} (wc : WC v) {M : q_M} (h : SH M) (c : CS M 2 v) (wz : WZ M) {x1 x2 x3 x4 x5 : Int32} {i j s w u : Nat} (m : meC v x1 x3 x4 x5 i s w u) (m' : meC v x2 x3 x4 x5 j s w u) : ∃ M1, q_CL 121 [.inr (.inr (some 1)), .inl x1, .inl x2, .inl x3, .inl x4, .inl x5] M = some (some (.inl (if mO v i s w u s ≤ mO v j s w u s then (if mO v j s w u s ≤ mO v i s w u s then nI 0 else -1) else nI 1)), M1) ∧ FC wsc M M1 ∧ WZ M1 := by
  have v8 := wc.1
  obtain ⟨hi, rfl, mo⟩ := m
  obtain ⟨hj, rfl, mo'⟩ := m'
  obtain ⟨o, o1, o2⟩ := K_cA wc h c hi
  obtain ⟨p, p1, p2⟩ := K_cA wc h c hj
  have hc := wc.2 i hi
  have hc2 := wc.2 j hj
  have e : q_CL 122 [.inr (.inr (some o)), .inl x3, .inl x4, .inl x5] M = some (some (.inl (nI 1)), M) := by
    rcases K_hm hc o2 x3 x4 x5 with ⟨n1, _⟩ | ⟨_, e⟩
    · exact absurd ⟨s, w, u, mo⟩ n1
    · exact e
  have e' : q_CL 122 [.inr (.inr (some p)), .inl x3, .inl x4, .inl x5] M = some (some (.inl (nI 1)), M) := by
    rcases K_hm hc2 p2 x3 x4 x5 with ⟨n1, _⟩ | ⟨_, e⟩
    · exact absurd ⟨s, w, u, mo'⟩ n1
    · exact e
  obtain ⟨d2, rfl, s1, s64, r0, r1, rfl, w1, ws, rfl, u1, us⟩ := mo
  obtain ⟨d2', _, _, _, r0', r1', _⟩ := mo'
  obtain ⟨M1, k1, k2, k3⟩ := K_st (by omega) hc d2 s1 s64 r0 r1 w1 ws u1 us h wz o2
  obtain ⟨M2, k1', k2', k3'⟩ := K_st (by omega) hc2 d2' s1 s64 r0' r1' w1 ws u1 us (k2.sh h) k3 (p2.fc k2 wsc_ok)
  have bO := mO_b2 v i s w u s64 s s64
  have bO2 := mO_b2 v j s w u s64 s s64
  refine ⟨M2, ?_, k2.tr k2', k3'⟩
  rw [C_X11_compare]
  simp only [c_sel h, Option.bind_some, o1, z_rR, p1, e, e', z_rI]
  rw [if_neg (show ¬ nI 1 = 0 by decide +kernel)]
  simp only [k1, z_rL, Option.bind_some, c_sel (k2.sh h), k1', C_J13_compare_74951, lg_cmp_ge, lg_cmp_eq, pk_lLE (show mO v j s w u s < 2 ^ 63 by omega) (show mO v i s w u s < 2 ^ 63 by omega), pk_lEQ (show mO v i s w u s < 2 ^ 63 by omega) (show mO v j s w u s < 2 ^ 63 by omega)]
  by_cases c1 : mO v j s w u s ≤ mO v i s w u s
  · by_cases c2 : mO v i s w u s = mO v j s w u s
    · simp only [if_pos c1, if_pos c2, if_pos (show mO v i s w u s ≤ mO v j s w u s by omega), z_rI, Option.bind_some, if_neg (show ¬ nI 1 = 0 by decide +kernel)]
    · simp only [if_pos c1, if_neg c2, if_neg (show ¬ mO v i s w u s ≤ mO v j s w u s by omega), z_rI, Option.bind_some, if_neg (show ¬ nI 1 = 0 by decide +kernel)]
  · simp only [if_neg c1, if_pos (show mO v i s w u s ≤ mO v j s w u s by omega), z_rI, Option.bind_some, if_neg (show ¬ nI 1 = 0 by decide +kernel)]
