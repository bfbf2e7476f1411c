/-! ===== THE REFERENCE: curve, whole ===== -/
theorem rg2 (x : Int32) {lo hi : Nat} (h : hi + 1 < 2 ^ 31) (hl : lo ≤ hi) : x < nI lo ∨ (¬ x < nI lo ∧ nI hi < x) ∨ ∃ j, lo ≤ j ∧ j ≤ hi ∧ x = nI j ∧ ¬ x < nI lo ∧ ¬ nI hi < x := by
  by_cases a : x < nI lo
  · exact Or.inl a
  by_cases b : nI hi < x
  · exact Or.inr (Or.inl ⟨a, b⟩)
  right
  right
  have c1 : ¬ x.toInt < (nI lo).toInt := fun z => a (Int32.lt_iff_toInt_lt.mpr z)
  have c2 : ¬ (nI hi).toInt < x.toInt := fun z => b (Int32.lt_iff_toInt_lt.mpr z)
  rw [nI_toInt (by omega)] at c1 c2
  rcases pk_ix x h with q | q | ⟨n, q, rfl⟩
  · exfalso
    have : x.toInt < (nI 0).toInt := by rw [nI_0]; exact Int32.lt_iff_toInt_lt.mp q
    rw [nI_toInt (by omega)] at this
    omega
  · exfalso
    have : (nI (hi + 1)).toInt ≤ x.toInt := Int32.le_iff_toInt_le.mp q
    rw [nI_toInt (by omega)] at this
    omega
  · rw [nI_toInt (by omega)] at c1
    exact ⟨n, by omega, by omega, rfl, a, b⟩
/-- what a call of curve asks for may be a curve -/
def crI (x1 x2 x3 x4 x5 : Int32) : Prop := ∃ K d a b c, x1 = nI K ∧ x2 = nI d ∧ x3 = nI a ∧ x4 = nI b ∧ x5 = nI c ∧ crG K d a b c
theorem crG_20 {K d a b c : Nat} (h : crG K d a b c) : K ≤ 4 ∧ d ≤ 3 ∧ a ≤ 20 ∧ b ≤ 20 ∧ c ≤ 20 := by
  obtain ⟨h1, h2, h3, h4, h5, h6⟩ := h
  have : a ≤ 20 := by
    by_cases e : K = 3
    · rw [if_pos e] at h4; omega
    · rw [if_neg e] at h4; exact h4
  by_cases o : K = 0 ∨ K = 4
  · obtain ⟨b1, b2, b3, b4⟩ := h5 o
    rcases h2 with q | q
    · have := b3 q; omega
    · have := b4 q; omega
  · have := h6 o; omega
theorem R_curve {v : Nat → Nat} (wc : WC v) {w : Nat → Int32} {M : q_M} (h : SH M) (r : RI M v) (wi : WI M w) (x1 x2 x3 x4 x5 : Int32) : (¬ (v 0 < 8 ∧ crI x1 x2 x3 x4 x5) ∧ q_CL 147 [.inr (.inr (some 49)), .inl x1, .inl x2, .inl x3, .inl x4, .inl x5] M = some (some (.inl (-1)), M)) ∨ ∃ K d a b c M1, v 0 < 8 ∧ x1 = nI K ∧ x2 = nI d ∧ x3 = nI a ∧ x4 = nI b ∧ x5 = nI c ∧ crG K d a b c ∧ q_CL 147 [.inr (.inr (some 49)), .inl x1, .inl x2, .inl x3, .inl x4, .inl x5] M = some (some (.inl (nI (v 0))), M1) ∧ FL f50 M M1 ∧ RI M1 (crV v K d (crL K d a b c)) ∧ WI M1 w := by
  have w0 := wc.1
  have r0 := r 0 (by omega) (by omega)
  rw [C_X12_curve]
  rcases ix3 x1 (show 4 + 1 < 2 ^ 31 by omega) with z | ⟨z1, z2, z3⟩ | ⟨K, hK, rfl⟩
  · left
    refine ⟨?_, if_pos z⟩
    rintro ⟨_, K, d, a, b, c, rfl, _, _, _, _, g⟩
    exact nI_pos (by have := crG_20 g; omega) z
  · left
    refine ⟨?_, by rw [if_neg z1, if_pos z2]⟩
    rintro ⟨_, K, d, a, b, c, rfl, _, _, _, _, g⟩
    exact z3 (nI_le (crG_20 g).1 (by omega))
  rw [if_neg (nI_pos (by omega)), if_neg (nI_nlt hK (by omega))]
  have Kq : ∀ K', K' ≤ 4 → nI K = nI K' → K' = K := fun K' h1 h2 => ((nI_eq (by omega) (by omega)).mp h2).symm
  rcases rg2 x2 (show 3 + 1 < 2 ^ 31 by omega) (show 2 ≤ 3 by omega) with z | ⟨z1, z2⟩ | ⟨d, hd1, hd2, rfl, z1, z2⟩
  · left
    refine ⟨?_, if_pos z⟩
    rintro ⟨_, K, d, a, b, c, _, rfl, _, _, _, g⟩
    exact nI_nlt (show 2 ≤ d by have := g.2.1; omega) (by have := g.2.1; omega) z
  · left
    refine ⟨?_, by rw [if_neg z1, if_pos z2]⟩
    rintro ⟨_, K, d, a, b, c, _, rfl, _, _, _, g⟩
    exact nI_nlt (show d ≤ 3 by have := g.2.1; omega) (by omega) z2
  rw [if_neg z1, if_neg z2]
  have dq' : ∀ d', d' ≤ 3 → nI d = nI d' → d' = d := fun d' h1 h2 => ((nI_eq (by omega) (by omega)).mp h2).symm
  simp only [m_s h, Option.bind_some, m_aL h (show 0 < 60190 by omega), r0.1, lg_cmp_eq, pk_lEQ (show v 0 < 2 ^ 63 by omega) (show 8 < 2 ^ 63 by omega)]
  by_cases c8 : v 0 = 8
  · left
    refine ⟨fun z => by omega, if_pos c8⟩
  rw [if_neg c8]
  have red : (if nI K = 0 then if nI K = (nI 3) then q_RL T_X12_curve (62, [some (.inr (.inr (some 49))), some (.inl (nI K)), some (.inl (nI d)), some (.inl x3), some (.inl x4), some (.inl x5), some (.inl (nI 1)), none, none, none, none], [.inl (nI 12)], M) else q_RL T_X12_curve (62, [some (.inr (.inr (some 49))), some (.inl (nI K)), some (.inl (nI d)), some (.inl x3), some (.inl x4), some (.inl x5), some (.inl (nI 1)), none, none, none, none], [.inl (nI 20)], M) else if nI K = (nI 4) then if nI K = (nI 3) then q_RL T_X12_curve (62, [some (.inr (.inr (some 49))), some (.inl (nI K)), some (.inl (nI d)), some (.inl x3), some (.inl x4), some (.inl x5), some (.inl (nI 1)), none, none, none, none], [.inl (nI 12)], M) else q_RL T_X12_curve (62, [some (.inr (.inr (some 49))), some (.inl (nI K)), some (.inl (nI d)), some (.inl x3), some (.inl x4), some (.inl x5), some (.inl (nI 1)), none, none, none, none], [.inl (nI 20)], M) else if nI K = (nI 3) then q_RL T_X12_curve (62, [some (.inr (.inr (some 49))), some (.inl (nI K)), some (.inl (nI d)), some (.inl x3), some (.inl x4), some (.inl x5), some (.inl (nI 0)), none, none, none, none], [.inl (nI 12)], M) else q_RL T_X12_curve (62, [some (.inr (.inr (some 49))), some (.inl (nI K)), some (.inl (nI d)), some (.inl x3), some (.inl x4), some (.inl x5), some (.inl (nI 0)), none, none, none, none], [.inl (nI 20)], M)) = q_RL T_X12_curve (62, [some (.inr (.inr (some 49))), some (.inl (nI K)), some (.inl (nI d)), some (.inl x3), some (.inl x4), some (.inl x5), some (.inl (nI (if K = 0 ∨ K = 4 then 1 else 0))), none, none, none, none], [.inl (nI (if K = 3 then 12 else 20))], M) := by
    rcases (show K = 0 ∨ K = 1 ∨ K = 2 ∨ K = 3 ∨ K = 4 by omega) with rfl | rfl | rfl | rfl | rfl
    · rw [if_pos nI_0, if_neg (show ¬ nI 0 = nI 3 by decide +kernel), if_pos (Or.inl rfl), if_neg (by omega)]
    · rw [if_neg (show ¬ nI 1 = 0 by decide +kernel), if_neg (show ¬ nI 1 = nI 4 by decide +kernel), if_neg (show ¬ nI 1 = nI 3 by decide +kernel), if_neg (by omega), if_neg (by omega)]
    · rw [if_neg (show ¬ nI 2 = 0 by decide +kernel), if_neg (show ¬ nI 2 = nI 4 by decide +kernel), if_neg (show ¬ nI 2 = nI 3 by decide +kernel), if_neg (by omega), if_neg (by omega)]
    · rw [if_neg (show ¬ nI 3 = 0 by decide +kernel), if_neg (show ¬ nI 3 = nI 4 by decide +kernel), if_pos rfl, if_neg (by omega), if_pos rfl]
    · rw [if_neg (show ¬ nI 4 = 0 by decide +kernel), if_pos rfl, if_neg (show ¬ nI 4 = nI 3 by decide +kernel), if_pos (Or.inr rfl), if_neg (by omega)]
  rw [red, E_X12_curve_62]
  have no : ∀ x6 x7 : Int32, q_RL T_X12_curve (137, [some (.inr (.inr (some 49))), some (.inl (nI K)), some (.inl (nI d)), some (.inl x3), some (.inl x4), some (.inl x5), some (.inl x6), some (.inl x7), none, none, none], [.inl (nI 0)], M) = some (some (.inl (-1)), M) := fun x6 x7 => by
    rw [E_X12_curve_137, if_pos nI_0]
  simp only [no]
  have mo : (if K = 3 then 12 else 20) ≤ 20 ∧ 1 ≤ (if K = 3 then 12 else 20) := by split <;> omega
  generalize hmo : (if K = 3 then 12 else 20) = mm at *
  rcases rg2 x3 (lo := 1) (hi := mm) (by omega) mo.2 with z | ⟨z1, z2⟩ | ⟨a, ha1, ha2, rfl, z1, z2⟩
  · left
    refine ⟨?_, if_pos z⟩
    rintro ⟨_, K, d, a, b, c, _, _, rfl, _, _, g⟩
    exact nI_nlt g.2.2.1 (by have := crG_20 g; omega) z
  · left
    refine ⟨?_, by rw [if_neg z1, if_pos z2]⟩
    rintro ⟨_, K', d, a, b, c, e1, _, rfl, _, _, g⟩
    have := Kq K' g.1 e1
    subst this
    exact nI_nlt (by have := g.2.2.2.1; rw [hmo] at this; exact this) (by omega) z2
  rw [if_neg z1, if_neg z2]
  have fin : ∀ b c, x4 = nI b → x5 = nI c → crG K d a b c → ∃ K' d' a' b' c' M1, v 0 < 8 ∧ nI K = nI K' ∧ nI d = nI d' ∧ nI a = nI a' ∧ x4 = nI b' ∧ x5 = nI c' ∧ crG K' d' a' b' c' ∧ q_RL T_X12_curve (137, [some (.inr (.inr (some 49))), some (.inl (nI K)), some (.inl (nI d)), some (.inl (nI a)), some (.inl x4), some (.inl x5), some (.inl (nI (if K = 0 ∨ K = 4 then 1 else 0))), some (.inl (nI mm)), none, none, none], [.inl (nI 1)], M) = some (some (.inl (nI (v 0))), M1) ∧ FL f50 M M1 ∧ RI M1 (crV v K' d' (crL K' d' a' b' c')) ∧ WI M1 w := fun b c eb ec g => by
    subst eb
    subst ec
    obtain ⟨M1, p1, p2, p3, p4⟩ := R_cv137 wc (by omega) g (x7 := none) h r wi rfl (y7 := nI mm)
    exact ⟨K, d, a, b, c, M1, by omega, rfl, rfl, rfl, rfl, rfl, g, p1, p2, p3, p4⟩
  by_cases o : K = 0 ∨ K = 4
  · rw [if_pos o] at fin ⊢
    rw [if_neg (show ¬ nI 1 = 0 by decide +kernel)]
    have m20 : mm = 20 := by rw [← hmo, if_neg (by omega)]
    rcases rg2 x4 (lo := 1) (hi := mm) (by omega) mo.2 with z | ⟨z1, z2⟩ | ⟨b, hb1, hb2, rfl, z1, z2⟩
    · left
      refine ⟨?_, if_pos z⟩
      rintro ⟨_, K', d, a, b, c, e1, _, _, rfl, _, g⟩
      have := Kq K' g.1 e1
      subst this
      exact nI_nlt (g.2.2.2.2.1 o).1 (by have := crG_20 g; omega) z
    · left
      refine ⟨?_, by rw [if_neg z1, if_pos z2]⟩
      rintro ⟨_, K', d, a, b, c, e1, _, _, rfl, _, g⟩
      have := Kq K' g.1 e1
      subst this
      exact nI_nlt (by have := crG_20 g; omega) (by omega) z2
    rw [if_neg z1, if_neg z2]
    simp only [nI_eq (show d < 2 ^ 31 by omega) (show 2 < 2 ^ 31 by omega)]
    by_cases hd : d = 2
    · rw [if_pos hd]
      by_cases c0 : x5 = 0
      · right
        rw [if_pos c0]
        exact fin b 0 rfl (c0.trans nI_0.symm) ⟨hK, by omega, ha1, by rw [hmo]; exact ha2, fun _ => ⟨hb1, by omega, fun _ => rfl, fun z => by omega⟩, fun z => absurd o z⟩
      · left
        rw [if_neg c0]
        refine ⟨?_, rfl⟩
        rintro ⟨_, K', d', a, b, c, e1, e2, _, _, rfl, g⟩
        have := Kq K' g.1 e1
        subst this
        have := dq' d' (crG_20 g).2.1 e2
        subst this
        have := (g.2.2.2.2.1 o).2.2.1 hd
        subst this
        exact c0 nI_0
    · rw [if_neg hd]
      rcases rg2 x5 (lo := 1) (hi := mm) (by omega) mo.2 with z | ⟨z1, z2⟩ | ⟨c, hc1, hc2, rfl, z1, z2⟩
      · left
        refine ⟨?_, if_pos z⟩
        rintro ⟨_, K', d', a, b, c, e1, e2, _, _, rfl, g⟩
        have := Kq K' g.1 e1
        subst this
        have := dq' d' (crG_20 g).2.1 e2
        subst this
        exact nI_nlt ((g.2.2.2.2.1 o).2.2.2 (by omega)).1 (by have := crG_20 g; omega) z
      · left
        refine ⟨?_, by rw [if_neg z1, if_pos z2]⟩
        rintro ⟨_, K', d', a, b, c, e1, e2, _, _, rfl, g⟩
        exact nI_nlt (by have := crG_20 g; omega) (by omega) z2
      · right
        rw [if_neg z1, if_neg z2]
        exact fin b c rfl rfl ⟨hK, by omega, ha1, by rw [hmo]; exact ha2, fun _ => ⟨hb1, by omega, fun z => by omega, fun _ => ⟨hc1, by omega⟩⟩, fun z => absurd o z⟩
  · rw [if_neg o] at fin ⊢
    rw [if_pos nI_0]
    by_cases b0 : x4 = 0
    · rw [if_pos b0]
      by_cases c0 : x5 = 0
      · right
        rw [if_pos c0]
        exact fin 0 0 (b0.trans nI_0.symm) (c0.trans nI_0.symm) ⟨hK, by omega, ha1, by rw [hmo]; exact ha2, fun z => absurd z o, fun _ => ⟨rfl, rfl⟩⟩
      · left
        rw [if_neg c0]
        refine ⟨?_, rfl⟩
        rintro ⟨_, K', d', a, b, c, e1, e2, _, _, rfl, g⟩
        have := Kq K' g.1 e1
        subst this
        have := (g.2.2.2.2.2 o).2
        subst this
        exact c0 nI_0
    · left
      rw [if_neg b0]
      refine ⟨?_, rfl⟩
      rintro ⟨_, K', d', a, b, c, e1, e2, _, rfl, _, g⟩
      have := Kq K' g.1 e1
      subst this
      have := (g.2.2.2.2.2 o).1
      subst this
      exact b0 nI_0
/-! a curve more: what stands -/
theorem cX_1 {v u : Nat → Nat} {i : Nat} (h : ∀ t, t < 6 → u (1 + 6 * i + t) = v (1 + 6 * i + t)) : cK u i = cK v i ∧ cD u i = cD v i ∧ (∀ a, a < 3 → cL u i a = cL v i a) ∧ cS u i = cS v i := ⟨h 0 (by omega), h 1 (by omega), fun a ha => h _ (by omega), h 5 (by omega)⟩
theorem okI_1 {v u : Nat → Nat} {i : Nat} (h : ∀ t, t < 6 → u (1 + 6 * i + t) = v (1 + 6 * i + t)) (hc : okI v i) : okI u i := by
  obtain ⟨e1, e2, e3, e4⟩ := cX_1 h
  obtain ⟨⟨k1, k2, k3, k4, k5, k6, k7⟩, k8⟩ := hc
  have hs : lsm (cL u i) = lsm (cL v i) := by unfold lsm; rw [e3 0 (by omega), e3 1 (by omega), e3 2 (by omega)]
  refine ⟨?_, by rw [e4, e1, hs]; exact k8⟩
  unfold okC
  rw [e1, e2]
  refine ⟨k1, k2, fun a ha => by rw [e3 a ha]; exact k3 a ha, fun a ha => by rw [e3 a (by omega)]; exact k4 a ha, fun a ha hb => by rw [e3 a hb]; exact k5 a ha hb, fun hK a ha => by rw [e3 a (by omega), e3 0 (by omega)]; exact k6 hK a ha, fun hK => by rw [e3 0 (by omega)]; exact k7 hK⟩
theorem npI_1 {v u : Nat → Nat} {i : Nat} (h : ∀ t, t < 6 → u (1 + 6 * i + t) = v (1 + 6 * i + t)) (hc : okI v i) {q q' : Nat → Nat} (hq : ∀ a, a < 3 → q a < cB (cK v i) ^ cL v i a) (e : ∀ a, a < 3 → q' a = q a) : npI u i q' = npI v i q := by
  obtain ⟨e1, e2, e3, e4⟩ := cX_1 h
  have hs : lsm (cL u i) = lsm (cL v i) := by unfold lsm; rw [e3 0 (by omega), e3 1 (by omega), e3 2 (by omega)]
  obtain ⟨f1, f2, f3, f4, f5⟩ := cmO_cg e3 (cK v i) (cD v i)
  have hI := in0 (v := v) (i := i) (q := q) |>.mpr hq
  have g := gdI hc
  have hI' : inb (bx (cmI v i) 0 0) q' := fun a ha => by rw [e a ha]; exact hI a ha
  have k1 : np (cmI u i) q' (lsm (cL v i)) = np (cmI v i) q' (lsm (cL v i)) := by
    have : cmI u i = cmO (cK v i) (cD v i) (cL u i) := by unfold cmI; rw [e1, e2]
    rw [this]
    exact np_cg g f1 f2 f3 f4 f5 hI' _ (Nat.le_refl _)
  have k2 := np_in g hI _ (Nat.le_refl _)
  have k3 := (np_eq g _ _ (Nat.le_refl _) k2.1 (q := q') (fun a ha => by rw [e a ha]; exact k2.2 a ha)).2
  unfold npI
  rw [hs, k1, k3]
theorem SW_1 {v u : Nat → Nat} {i o : Nat} (hc : okI v i) (h : ∀ t, t < 6 → u (1 + 6 * i + t) = v (1 + 6 * i + t)) (e : ∀ x, x < 2110 → u (o + x) = v (o + x)) (s : SW v i o) : SW u i o := by
  obtain ⟨s1, s2, s3, s4, s5, s6⟩ := s
  obtain ⟨c1, c2, c3, c4⟩ := cX_1 h
  have e2 := e 2 (by omega)
  have e3 := e 3 (by omega)
  have ep : ∀ p t, p < 300 → t < 6 → u (o + 4 + 6 * p + t) = v (o + 4 + 6 * p + t) := fun p t hp ht => by
    have := e (4 + 6 * p + t) (by omega)
    rw [show o + 4 + 6 * p + t = o + (4 + 6 * p + t) by omega, this]
  have ek : ∀ k, k < 300 → u (o + 1804 + k) = v (o + 1804 + k) := fun k hk => by
    have := e (1804 + k) (by omega)
    rw [show o + 1804 + k = o + (1804 + k) by omega, this]
  unfold SW
  rw [e2, e3]
  refine ⟨s1, s2, ?_, fun k hk => ?_, fun p hp => ?_, fun p q hpq hq => ?_⟩
  · rw [← s3]
    exact psm_cg _ fun k hk => ek k (by omega)
  · rw [ek k (by omega)]; exact s4 k hk
  · obtain ⟨a1, a2, a3, a4⟩ := s5 p hp
    have b0 := ep p 0 (by omega) (by omega)
    rw [Nat.add_zero] at b0
    refine ⟨by rw [b0]; exact a1, by rw [ep p 4 (by omega) (by omega)]; exact a2, fun a ha => ?_, ?_⟩
    · rw [ep p (1 + a) (by omega) (by omega), c1, c3 a ha]; exact a3 a ha
    · rw [ep p 5 (by omega) (by omega), a4]
      exact (npI_1 h hc a3 fun a ha => ep p (1 + a) (by omega) (by omega)).symm
  · have b0 := ep p 0 (by omega) (by omega)
    have b1 := ep q 0 (by omega) (by omega)
    rw [Nat.add_zero] at b0 b1
    unfold befP bef
    rw [b0, b1, ep p 5 (by omega) (by omega), ep q 5 (by omega) (by omega)]
    exact s6 p q hpq hq
theorem SV_cr {v : Nat → Nat} (s : SV v) (h8 : v 0 < 8) {K d : Nat} {L : Nat → Nat} (hok : okC K d L) : SV (crV v K d L) := by
  obtain ⟨a1, a2, a3, a4, a5, a6⟩ := crV_a v K d L
  refine ⟨⟨by rw [a5]; omega, fun i hi => ?_⟩, fun k hk => ?_⟩
  · rw [a5] at hi
    by_cases q : i = v 0
    · subst q
      refine ⟨?_, ?_⟩
      · obtain ⟨k1, k2, k3, k4, k5, k6, k7⟩ := hok
        unfold okC
        rw [a1, a2]
        refine ⟨k1, k2, fun x hx => by rw [a3 x hx]; exact k3 x hx, fun x hx => by rw [a3 x (by omega)]; exact k4 x hx, fun x hx hy => by rw [a3 x hy]; exact k5 x hx hy, fun z x hx => by rw [a3 x (by omega), a3 0 (by omega)]; exact k6 z x hx, fun z => by rw [a3 0 (by omega)]; exact k7 z⟩
      · rw [a4, a1]
        unfold lsm
        rw [a3 0 (by omega), a3 1 (by omega), a3 2 (by omega)]
    · exact okI_1 (fun t ht => a6 _ (by omega) (by omega)) (s.1.2 i (by omega))
  · have ob := oS_b hk
    obtain ⟨s1, s2, s3⟩ := s.2 k hk
    rw [a6 (oS k) (by omega) (by omega), a6 (oS k + 1) (by omega) (by omega), a6 (60180 + k) (by omega) (by omega), a5]
    refine ⟨s1, s2, fun y => ?_⟩
    obtain ⟨s4, s5⟩ := s3 y
    obtain ⟨i8, hc⟩ := s.i8 hk y
    refine ⟨by omega, fun n hn => ?_⟩
    obtain ⟨u1, u2, u3⟩ := s5 n hn
    rw [a6 (oS k + 2110 * n) (by omega) (by omega), a6 (oS k + 2110 * n + 1) (by omega) (by omega)]
    exact ⟨u1, u2, SW_1 hc (fun t ht => a6 _ (by omega) (by omega)) (fun x hx => a6 _ (by omega) (by omega)) u3⟩
theorem SV_sh {v : Nat → Nat} (s : SV v) {j i : Nat} (hj : j < 4) (hi : i < v 0) : SV (shV v j i) := by
  have ob := oS_b hj
  have w0 := s.1.1
  have hx : ∀ x, x ≠ oS j → x ≠ oS j + 1 → x ≠ oS j + 2 → x ≠ oS j + 3 → x ≠ 60180 + j → shV v j i x = v x := fun x h1 h2 h3 h4 h5 => by
    unfold shV
    rw [va_up_ne _ _ h5, va_up_ne _ _ h4, va_up_ne _ _ h3, va_up_ne _ _ h2, va_up_ne _ _ h1]
  have e0 : shV v j i (oS j) = 1 := by
    unfold shV
    rw [va_up_ne _ _ (by omega), va_up_ne _ _ (by omega), va_up_ne _ _ (by omega), va_up_ne _ _ (by omega), va_up_self]
  have e1 : shV v j i (oS j + 1) = i := by
    unfold shV
    rw [va_up_ne _ _ (by omega), va_up_ne _ _ (by omega), va_up_ne _ _ (by omega), va_up_self]
  have e2 : shV v j i (oS j + 2) = 0 := by
    unfold shV
    rw [va_up_ne _ _ (by omega), va_up_ne _ _ (by omega), va_up_self]
  have e3 : shV v j i (oS j + 3) = 0 := by
    unfold shV
    rw [va_up_ne _ _ (by omega), va_up_self]
  have e4 : shV v j i (60180 + j) = 0 := va_up_self _ _ _
  have cg : ∀ x, x < 49 → shV v j i x = v x := fun x hx' => hx x (by omega) (by omega) (by omega) (by omega) (by omega)
  refine ⟨WC_cg cg s.1, fun k hk => ?_⟩
  have obk := oS_b hk
  by_cases q : k = j
  · subst q
    rw [e0, e1, e4, cg 0 (by omega)]
    refine ⟨by omega, by omega, fun _ => ⟨hi, fun n hn => ?_⟩⟩
    have : n = 0 := by omega
    subst this
    refine ⟨e0, e1, ?_⟩
    show SW (shV v k i) i (oS k)
    unfold SW
    rw [e2, e3]
    exact ⟨by omega, by omega, rfl, fun x hx => by omega, fun x hx => by omega, fun p q hp hq => by omega⟩
  · have hy : ∀ x, x < 14770 → shV v j i (oS k + x) = v (oS k + x) := fun x hx' => hx _ (by unfold oS at *; omega) (by unfold oS at *; omega) (by unfold oS at *; omega) (by unfold oS at *; omega) (by omega)
    obtain ⟨s1, s2, s3⟩ := s.2 k hk
    have y0 := hy 0 (by omega)
    rw [Nat.add_zero] at y0
    rw [y0, hy 1 (by omega), hx (60180 + k) (by omega) (by omega) (by omega) (by omega) (by omega), cg 0 (by omega)]
    refine ⟨s1, s2, fun y => ?_⟩
    obtain ⟨s4, s5⟩ := s3 y
    obtain ⟨i8, hc⟩ := s.i8 hk y
    refine ⟨s4, fun n hn => ?_⟩
    obtain ⟨u1, u2, u3⟩ := s5 n hn
    have g1 := hy (2110 * n + 1) (by omega)
    rw [← Nat.add_assoc] at g1
    rw [hy (2110 * n) (by omega), g1]
    exact ⟨u1, u2, SW_cg i8 hc cg (fun x hx' => by rw [Nat.add_assoc]; exact hy _ (by omega)) u3⟩
