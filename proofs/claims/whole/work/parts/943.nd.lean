/-! ===== THE REFERENCE: within ===== -/
theorem cnt_in {v : Nat → Nat} {o : Nat} {g : Nat → Nat} {wy D k : Nat} (oR : Ord (kL v o g wy) (v (o + 2))) (hk : ∀ i, i < v (o + 2) → rk (kL v o g wy) (v (o + 2)) (fun _ => true) i < k → dsP v o g wy i ≤ D) {b : Nat} (hb : b < v (o + 2)) (eb : rk (kL v o g wy) (v (o + 2)) (fun _ => true) b = k) (hd : D < dsP v o g wy b) : cnt (fun i => decide (dsP v o g wy i ≤ D)) (v (o + 2)) = k := by
  rw [← eb]
  unfold rk
  refine cnt_cg _ fun j hj => ?_
  by_cases q : dsP v o g wy j ≤ D
  · rw [decide_eq_true q]
    unfold kL
    rw [decide_eq_true (show dsP v o g wy j < dsP v o g wy b ∨ _ from Or.inl (by omega))]
    rfl
  · rw [decide_eq_false q]
    cases e : kL v o g wy j b with
    | false => rfl
    | true =>
      exfalso
      have := rk_lt oR (E := fun _ => true) hj hb rfl e
      exact q (hk j hj (by omega))
theorem R_wi96 {v : Nat → Nat} {i o : Nat} (s : SW v i o) (hi : i < 8) (hc : okI v i) (ho : 1100 ≤ o ∧ o + 2110 ≤ 60180) {g : Nat → Nat} {wy t D : Nat} (hw : wy < 3) (hD : D < 2 ^ 31) {w : Nat → Int32} {x1 x2 x3 x4 : Int32} : ∀ m k, k + m = v (o + 2) → (∀ i, i < v (o + 2) → rk (kL v o g wy) (v (o + 2)) (fun _ => true) i < k → dsP v o g wy i ≤ D) → ∀ {M : q_M}, SH M → RI M (nrV v o g wy t k) → WI M w → gI M 49 13 = nI o → HI M g → TI M 60 (tkK v o g wy (fun _ => true) k) → ∀ b, Fst (kL v o g wy) (fun i => !tkK v o g wy (fun _ => true) k i) (v (o + 2)) b → ∃ M1, q_RL T_X12_within (96, [some (.inr (.inr (some 49))), some (.inl x1), some (.inl x2), some (.inl x3), some (.inl x4), some (.inl (nI wy)), some (.inl (nI D)), some (.inl (oI b))], [], M) = some (some (.inl (nI (cnt (fun i => decide (dsP v o g wy i ≤ D)) (v (o + 2))))), M1) ∧ F2 f50 M M1 ∧ RI M1 (nrV v o g wy t (cnt (fun i => decide (dsP v o g wy i ≤ D)) (v (o + 2)))) ∧ WI M1 w := by
  have s1 := s.1
  have oR : Ord (kL v o g wy) (v (o + 2)) := kL_o fun p q hp hq => (s.2.2.2.2.2 p q hp hq).1
  have fin : ∀ k, k ≤ v (o + 2) → cnt (fun i => decide (dsP v o g wy i ≤ D)) (v (o + 2)) = k → ∀ {M : q_M}, SH M → RI M (nrV v o g wy t k) → WI M w → ((q_fR M 12 49 0).bind fun r1 => r1.bind fun a2 => (q_aL M a2 (nI 457)).bind fun l3 => some (some (.inl (Int64.toInt32 l3)), M) : Option (Option q_V × q_M)) = some (some (.inl (nI (cnt (fun i => decide (dsP v o g wy i ≤ D)) (v (o + 2))))), M) := fun k hkm ec {M} h r wi => by
    obtain ⟨n7, _⟩ := nrV_a s ho.1 g wy t hkm
    have r7 := (r 457 (by omega) (by omega)).1
    rw [n7] at r7
    simp only [m_s h, Option.bind_some, m_aL h (show 457 < 60190 by omega), r7, lN_i, ec]
  intro m
  induction m with
  | zero =>
    intro k hk hin M h r wi eo hh t1 b f
    have ec : cnt (fun i => decide (dsP v o g wy i ≤ D)) (v (o + 2)) = k := by
      refine ((cnt_cg (F := fun _ => true) _ fun j hj => ?_).trans (cnt_all _)).trans (by omega)
      have := rk_cnt oR (E := fun _ => true) hj rfl
      rw [cnt_all] at this
      exact decide_eq_true (hin j hj (by omega))
    have nx := nx_rk oR (E := fun _ => true) (k := k) (F := fun i => !tkK v o g wy (fun _ => true) k i) (fun i hi => by simp) f
    cases b with
    | some b =>
      exfalso
      obtain ⟨y1, y2, y3⟩ := nx
      have := rk_cnt oR (E := fun _ => true) y1 rfl
      rw [cnt_all] at this
      omega
    | none =>
      refine ⟨M, ?_, F2.rf _ M, by rw [ec]; exact r, wi⟩
      rw [E_X12_within_96, if_pos (show oI none = -1 from rfl)]
      exact fin k (by omega) ec h r wi
  | succ m ih =>
    intro k hk hin M h r wi eo hh t1 b f
    have nx := nx_rk oR (E := fun _ => true) (k := k) (F := fun i => !tkK v o g wy (fun _ => true) k i) (fun i hi => by simp) f
    cases b with
    | none =>
      exfalso
      have cm : cnt (fun _ => true) (v (o + 2)) ≤ k := nx
      rw [cnt_all] at cm
      omega
    | some b =>
      obtain ⟨y1, y2, y3⟩ := nx
      obtain ⟨n7, n9, nx', n8⟩ := nrV_a s ho.1 g wy t (N := k) (by omega)
      have hx : ∀ x, x < 49 ∨ 1100 ≤ x → nrV v o g wy t k x = v x := fun x hx => nx' x (by omega)
      have far := R_far h r ho eo hh hw (show b ≤ 300 by omega) (fun a ha => by rw [hx _ (by omega)]; exact s.pt hc y1 ha)
      rw [(ds_hi ho.1 hx g wy).1] at far
      have db := dsP_b (v := v) (o := o) (g := g) (wy := wy) (p := b) (fun a ha => s.pt hc y1 ha) (fun a ha => (hh a ha).2)
      rw [E_X12_within_96, if_neg (show ¬ oI (some b) = -1 from nI_nm1 (by omega))]
      simp only [m_sel h, Option.bind_some, show oI (some b) = nI b from rfl, far, z_rL, nI_l hD, lg_cmp_gt, pk_lLT (show D < 2 ^ 63 by omega) (show dsP v o g wy b < 2 ^ 63 by omega)]
      by_cases c : D < dsP v o g wy b
      · have ec := cnt_in oR hin y1 y3 c
        refine ⟨M, ?_, F2.rf _ M, by rw [ec]; exact r, wi⟩
        rw [if_pos c]
        exact fin k (by omega) ec h r wi
      · rw [if_neg c]
        obtain ⟨M1, M2, b', a1, a2, a3, a4, a5, rfl, a7, a8, a9, a10, a11, a12, a14⟩ := R_nrS s hi hc ho hw (rd := fun _ => false) h r wi eo hh t1 y1 y3
        obtain ⟨M3, c1, c2, c3, c4⟩ := ih (k + 1) (by omega) (fun i hi2 hr => by
          by_cases z : rk (kL v o g wy) (v (o + 2)) (fun _ => true) i = k
          · rw [rk_inj oR (E := fun _ => true) hi2 y1 rfl rfl (z.trans y3.symm)]; omega
          · exact hin i hi2 (by omega)) a4 a8 a9 a10 a11 a12 b' a14
        refine ⟨M3, ?_, a7.tr c2, c3, c4⟩
        simp only [m_tk h, Option.bind_some, m_b16 h (Or.inl rfl) (show b < 300 by omega), m_sel a1, a2, z_rL, a3, z_rV, m_sel a4, a5, z_rI, c1]
theorem fd0_s (v : Nat → Nat) (a b : Nat) : va_up (fd0 v a) 459 b = fd0 v b := by
  unfold fd0
  funext x
  by_cases z : x = 459
  · rw [z, va_up_self, va_up_self]
  · rw [va_up_ne _ _ z, va_up_ne _ _ z, va_up_ne _ _ z]
theorem psm_hi {v u : Nat → Nat} {o : Nat} (ho : 1100 ≤ o) (h : ∀ x, x < 49 ∨ 1100 ≤ x → u x = v x) (k : Nat) : psm u o k = psm v o k := psm_cg k fun j _ => h _ (by omega)
theorem lw_hi {v u : Nat → Nat} {o : Nat} (ho : 1100 ≤ o) (h : ∀ x, x < 49 ∨ 1100 ≤ x → u x = v x) (f a : Nat) : ∀ n, lwP u o f a n = lwP v o f a n ∧ hwP u o f a n = hwP v o f a n
  | 0 => ⟨h _ (by omega), h _ (by omega)⟩
  | n + 1 => by
    have ih := lw_hi ho h f a n
    unfold lwP hwP
    rw [ih.1, ih.2, h _ (by omega)]
    exact ⟨rfl, rfl⟩
theorem bxF_hi {v u : Nat → Nat} {o : Nat} (ho : 1100 ≤ o) (h : ∀ x, x < 49 ∨ 1100 ≤ x → u x = v x) (g : Nat → Nat) (wy k : Nat) : bxF u o g wy k = bxF v o g wy k := by
  unfold bxF
  rw [psm_hi ho h, h (o + 1804 + k) (by omega), (lw_hi ho h _ _ _).1, (lw_hi ho h _ _ _).2, (lw_hi ho h _ 1 _).1, (lw_hi ho h _ 1 _).2, (lw_hi ho h _ 2 _).1, (lw_hi ho h _ 2 _).2]
theorem R_within {v : Nat → Nat} (s : SV v) {w : Nat → Int32} {M : q_M} (h : SH M) (r : RI M v) (wi : WI M w) (x1 x2 x3 x4 x5 x6 : Int32) : (¬ (∃ j q wy D, askI v x1 x2 x3 x4 x5 (nI 1) j q wy 1 ∧ D < 2 ^ 31 ∧ x6 = nI D) ∧ ∃ M1, q_CL 215 [.inr (.inr (some 49)), .inl x1, .inl x2, .inl x3, .inl x4, .inl x5, .inl x6] M = some (some (.inl (-1)), M1) ∧ FO (fun _ => False) M M1) ∨ ∃ j q wy D M1, askI v x1 x2 x3 x4 x5 (nI 1) j q wy 1 ∧ D < 2 ^ 31 ∧ x6 = nI D ∧ q_CL 215 [.inr (.inr (some 49)), .inl x1, .inl x2, .inl x3, .inl x4, .inl x5, .inl x6] M = some (some (.inl (nI (cnt (fun i => decide (dsP v (oS j) q wy i ≤ D)) (v (oS j + 2))))), M1) ∧ F2 f50 M M1 ∧ RI M1 (nrV v (oS j) q wy (cnt (fun k => decide (bxF v (oS j) q wy k ≤ D)) (v (oS j + 3))) (cnt (fun i => decide (dsP v (oS j) q wy i ≤ D)) (v (oS j + 2)))) ∧ WI M1 w := by
  rw [C_X12_within]
  simp only [m_sel h, Option.bind_some]
  obtain ⟨A, fA, ⟨hx, e⟩ | ⟨j, q, wy, n, a, eo, e⟩⟩ := R_askI s h r x1 x2 x3 x4 x5 (nI 1)
  · left
    refine ⟨fun ⟨j, q, wy, D, z, _⟩ => hx ⟨j, q, wy, 1, z⟩, A, ?_, fA⟩
    rw [e]; rfl
  obtain ⟨hj, rfl, op, rfl, rfl, rfl, hq, rfl, hwy, en, n1, n2⟩ := a
  rw [e]
  simp only [z_rI, Option.bind_some]
  rw [if_neg (show ¬ nI 1 = 0 by decide +kernel)]
  by_cases x0 : 0 ≤ x6
  rotate_left
  · left
    refine ⟨?_, A, if_neg x0, fA⟩
    rintro ⟨_, _, _, D, _, hD, rfl⟩
    exact x0 (nI_pos' hD)
  right
  rw [if_pos x0]
  obtain ⟨D, hD, rfl⟩ := nI_of (x := x6) (fun z => by
    have z1 := Int32.lt_iff_toInt_lt.mp z
    have z2 := Int32.le_iff_toInt_le.mp x0
    omega)
  have ob := oS_b hj
  have ho : 1100 ≤ oS j ∧ oS j + 2110 ≤ 60180 := by omega
  obtain ⟨i8, hc⟩ := s.i8 hj op
  have sw := s.sw hj op
  have s1 := sw.1
  have s2 := sw.2.1
  have hA := fA.sh h
  have rA := fA.ri (by simp) r
  have wA := fA.wi (by simp) wi
  have hg : ∀ b, b < 3 → q b < 2 ^ 20 := fun b hb => by have := hq b hb; have := room_le hc hb; omega
  obtain ⟨B, b1, b2, b3⟩ := R_stands hA hg
  have hB := b2.sh hA
  have eB : gI B 49 13 = nI (oS j) := (b2.2.2.2 49 13 (by omega)).trans eo
  obtain ⟨C, c1, c2, c3, c4⟩ := R_begins hB (b2.ri rA) (b2.wi wA)
  have hC := c2.sh hB
  have eC : gI C 49 13 = nI (oS j) := (c2.2.2.2.1 49 13 (by unfold scr; omega)).trans eB
  have hhC : HI C q := fun b hb => ⟨(c2.2.2.2.1 59 b (by unfold scr; omega)).trans (b3 b hb).1, hg b hb⟩
  have k37 : ∀ m k, k + m = v (oS j + 3) → ∀ {M : q_M}, SH M → RI M (fd0 v (cnt (fun k => decide (bxF v (oS j) q wy k ≤ D)) k)) → WI M w → gI M 49 13 = nI (oS j) → HI M q → ∃ M1, q_RL T_X12_within (37, [some (.inr (.inr (some 49))), some (.inl (nI j)), some (.inl (nI (q 0))), some (.inl (nI (q 1))), some (.inl (nI (q 2))), some (.inl (nI wy)), some (.inl (nI D)), some (.inl (nI k))], [], M) = q_RL T_X12_within (37, [some (.inr (.inr (some 49))), some (.inl (nI j)), some (.inl (nI (q 0))), some (.inl (nI (q 1))), some (.inl (nI (q 2))), some (.inl (nI wy)), some (.inl (nI D)), some (.inl (nI (v (oS j + 3))))], [], M1) ∧ F2 f50 M M1 ∧ SH M1 ∧ RI M1 (fd0 v (cnt (fun k => decide (bxF v (oS j) q wy k ≤ D)) (v (oS j + 3)))) ∧ WI M1 w ∧ gI M1 49 13 = nI (oS j) ∧ HI M1 q := by
    intro m
    induction m with
    | zero =>
      intro k hk M h r wi eo hh
      rw [Nat.add_zero] at hk
      rw [hk] at r ⊢
      exact ⟨M, rfl, F2.rf _ M, h, r, wi, eo, hh⟩
    | succ m ih =>
      intro k hk M h r wi eo hh
      have hx : ∀ x, x < 49 ∨ 1100 ≤ x → fd0 v (cnt (fun k => decide (bxF v (oS j) q wy k ≤ D)) k) x = v x := fun x hx => fd0_x (by omega)
      have hk3 : k < fd0 v (cnt (fun k => decide (bxF v (oS j) q wy k ≤ D)) k) (oS j + 3) := by rw [hx _ (by omega)]; omega
      obtain ⟨M1, p1, p2⟩ := R_bxF (SW_hi i8 hc ho.1 hx sw) (okI_cg (fun x hx' => hx x (Or.inl hx')) i8 hc) h r ho eo hh hwy hk3
      rw [bxF_hi ho.1 hx] at p1
      have db := (bxF_b sw hc hg (wy := wy) (show k < v (oS j + 3) by omega)).2
      have h1 := p2.sh h
      have r1 := p2.ri r
      have r9 := (r 459 (by omega) (by omega)).1
      rw [(fd0_7 v _).2.2] at r9
      have cm := cnt_m (fun k => decide (bxF v (oS j) q wy k ≤ D)) k
      have c1' : cnt (fun k => decide (bxF v (oS j) q wy k ≤ D)) (k + 1) = cnt (fun k => decide (bxF v (oS j) q wy k ≤ D)) k + if bxF v (oS j) q wy k ≤ D then 1 else 0 := by
        show _ + (if decide (bxF v (oS j) q wy k ≤ D) = true then 1 else 0) = _
        simp only [decide_eq_true_eq]
      have rU := RI_up (k := 459) r1 (show cnt (fun k => decide (bxF v (oS j) q wy k ≤ D)) (k + 1) < 2 ^ 62 by rw [c1']; split <;> omega)
      rw [fd0_s] at rU
      have e1 : gI M1 49 13 = nI (oS j) := (p2.2.2.2 49 13 (by unfold b56; omega)).trans eo
      have hh1 := HI.fr p2 (fun k => by unfold b56; omega) hh
      obtain ⟨M2, q1, q2, q3, q4, q5, q6, q7⟩ := ih (k + 1) (by omega) (M := stL M1 50 459 (lN (cnt (fun k => decide (bxF v (oS j) q wy k ≤ D)) (k + 1)))) h1 rU (WI_up (p2.wi wi) (by omega)) e1 hh1
      refine ⟨M2, ?_, ((F2.fr p2 fun a k z => by unfold b56 at z; unfold sc2 scr; omega).st (show f50 50 from rfl)).tr q2, q3, q4, q5, q6, q7⟩
      have ep := (R_fld h r ho eo).2.1
      rw [hx _ (by omega)] at ep
      rw [← q1, E_X12_within_37]
      simp only [m_sel h, Option.bind_some, ep, z_rI]
      rw [if_neg (nI_ge (by omega) (by omega))]
      simp only [m_s h, Option.bind_some, m_aL h (show 459 < 60190 by omega), r9, p1, z_rL, nI_l hD, lg_cmp_gt, pk_lLT (show D < 2 ^ 63 by omega) (show bxF v (oS j) q wy k < 2 ^ 63 by omega), lN_add, m_bL h1 (show 459 < 60190 by omega), nI_1]
      by_cases c : bxF v (oS j) q wy k ≤ D
      · rw [if_neg (by omega), c1', if_pos c]
      · rw [if_pos (by omega), c1', if_neg c]
  obtain ⟨E, l1, l2, l3, l4, l5, l6, l7⟩ := k37 (v (oS j + 3)) 0 (by omega) hC c3 c4 eC hhC
  obtain ⟨G, g1, g2, g3⟩ := R_none l3
  have hG := g2.sh l3
  have eG : gI G 49 13 = nI (oS j) := (g2.2.2.2 49 13 (by omega)).trans l6
  have hhG : HI G q := HI.fr g2 (fun k => by omega) l7
  have tG0 : TI G 60 (tkK v (oS j) q wy (fun _ => true) 0) := fun i hi => by
    rw [g3 i hi]
    unfold tkK
    simp
  have rG : RI G (nrV v (oS j) q wy (cnt (fun k => decide (bxF v (oS j) q wy k ≤ D)) (v (oS j + 3))) 0) := g2.ri l4
  have wG := g2.wi l5
  obtain ⟨_, _, nx1, _⟩ := nrV_a sw ho.1 q wy (cnt (fun k => decide (bxF v (oS j) q wy k ≤ D)) (v (oS j + 3))) (N := 0) (by omega)
  have hx1 : ∀ x, x < 49 ∨ 1100 ≤ x → nrV v (oS j) q wy (cnt (fun k => decide (bxF v (oS j) q wy k ≤ D)) (v (oS j + 3))) 0 x = v x := fun x hx => nx1 x (by omega)
  obtain ⟨b, k1, k2⟩ := R_nO (SW_hi i8 hc ho.1 hx1 sw) (okI_cg (fun x hx' => hx1 x (Or.inl hx')) i8 hc) hG rG ho eG hhG hwy (rd := fun _ => false) tG0 false (Or.inl rfl)
  rw [(ds_hi ho.1 hx1 q wy).2, hx1 (oS j + 2) (by omega)] at k1
  have k1' : Fst (kL v (oS j) q wy) (fun i => !tkK v (oS j) q wy (fun _ => true) 0 i) (v (oS j + 2)) b := by
    have : (fun i => !tkK v (oS j) q wy (fun _ => true) 0 i) = eL (nrV v (oS j) q wy (cnt (fun k => decide (bxF v (oS j) q wy k ≤ D)) (v (oS j + 3))) 0) (oS j) (tkK v (oS j) q wy (fun _ => true) 0) (fun _ => false) false := by
      funext i
      unfold eL
      simp
    rw [this]; exact k1
  obtain ⟨N, m1, m2, m3, m4⟩ := R_wi96 sw i8 hc ho hwy hD (t := cnt (fun k => decide (bxF v (oS j) q wy k ≤ D)) (v (oS j + 3))) (x1 := nI j) (x2 := nI (q 0)) (x3 := nI (q 1)) (x4 := nI (q 2)) (v (oS j + 2)) 0 (by omega) (fun i _ z => by omega) hG rG wG eG hhG tG0 b k1'
  refine ⟨j, q, wy, D, N, ⟨hj, rfl, op, rfl, rfl, rfl, hq, rfl, hwy, rfl, by omega, by omega⟩, hD, rfl, ?_, ?_, m3, m4⟩
  · have ep := (R_fld l3 l4 ho l6).2.1
    rw [fd0_x (by omega)] at ep
    simp only [m_sel hA, Option.bind_some, b1, z_rV, m_sel hB, c1]
    rw [l1, E_X12_within_37]
    simp only [m_sel l3, Option.bind_some, ep, z_rI]
    rw [if_pos (nI_le (Nat.le_refl _) (by omega))]
    simp only [g1, z_rV, m_sel hG, show nI 0 = nI (bN false) from rfl, k2, z_rI, Option.bind_some, m1]
  · exact (((((F2.fo (fA.wk fun _ z => z.elim)).tr (F2.fr b2 fun a k z => Or.inr (Or.inr (Or.inl z)))).tr (F2.fl c2)).tr l2).tr (F2.fr g2 fun a k z => Or.inr (Or.inr (Or.inr (Or.inl z))))).tr m2
