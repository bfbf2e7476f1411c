/-! ===== THE REFERENCE: mean, compare ===== -/
def meC (v : Nat → Nat) (x1 x2 x3 x4 : Int32) (i s w h : Nat) : Prop := i < v 0 ∧ x1 = nI i ∧ cD v i = 2 ∧ x2 = nI s ∧ 1 ≤ s ∧ s ≤ 64 ∧ s ≤ cB (cK v i) ^ cL v i 0 ∧ s ≤ cB (cK v i) ^ cL v i 1 ∧ x3 = nI w ∧ 1 ≤ w ∧ w ≤ s ∧ x4 = nI h ∧ 1 ≤ h ∧ h ≤ s
theorem R_me98 {v : Nat → Nat} {i : Nat} (hi : i < 8) (hc : okI v i) (hd : cD v i = 2) {s w h : Nat} (hs : s ≤ 64) (r0 : s ≤ cB (cK v i) ^ cL v i 0) (r1 : s ≤ cB (cK v i) ^ cL v i 1) (hw : w ≤ s) (hh : h ≤ s) {W : Nat} : ∀ m x, x + m = s → ∀ {M : q_M}, SH M → RI M v → gL M 49 17 = lN W → gL M 49 18 = lN (mO v i s w h x) → ∀ d6 d7 d8 d9 d10, ∃ M1, q_RL T_X12_means (98, [some (.inr (.inr (some 49))), some (.inl (nI i)), some (.inl (nI s)), some (.inl (nI w)), some (.inl (nI h)), some (.inl (nI x)), d6, d7, d8, d9, d10], [], M) = some (some (.inl (nI 1)), M1) ∧ FL f49 M M1 ∧ gL M1 49 17 = lN W ∧ gL M1 49 18 = lN (mO v i s w h s) := by
  have t1 : nI 1 = 0 ∨ nI 1 = 1 := Or.inr rfl
  intro m
  induction m with
  | zero =>
    intro x hx M hM r e7 e8 d6 d7 d8 d9 d10
    refine ⟨M, ?_, FL.rf _ M, e7, by rw [e8, show x = s by omega]⟩
    rw [E_X12_means_98, if_pos (nI_le (by omega) (by omega)), if_pos t1]
  | succ m ih =>
    intro x hx M hM r e7 e8 d6 d7 d8 d9 d10
    have b := mO_b2 v i s w h hs x (by omega)
    obtain ⟨M1, f7, f8, f9, f10, k1, k2, k3, k4⟩ := R_me107 hi hc hd hs r0 r1 hw hh (x := x) (by omega) (T := mO v i s w h x) (W := W) (by omega) s 0 (by omega) hM r e7 e8 d7 d8 d9 d10
    obtain ⟨M2, l1, l2, l3, l4⟩ := ih (x + 1) (by omega) (k2.sh hM) (k2.r49 r) k3 k4 (some (.inl (nI s))) f7 f8 f9 f10
    refine ⟨M2, ?_, k2.tr l2, l3, l4⟩
    rw [E_X12_means_98, if_neg (nI_ge (by omega) (by omega)), k1, l1]
theorem R_means {v : Nat → Nat} (wc : WC v) {M : q_M} (h : SH M) (r : RI M v) (x1 x2 x3 x4 : Int32) : (¬ (∃ i s w h, meC v x1 x2 x3 x4 i s w h) ∧ q_CL 220 [.inr (.inr (some 49)), .inl x1, .inl x2, .inl x3, .inl x4] M = some (some (.inl (nI 0)), M)) ∨ ∃ i s w h M1, meC v x1 x2 x3 x4 i s w h ∧ q_CL 220 [.inr (.inr (some 49)), .inl x1, .inl x2, .inl x3, .inl x4] M = some (some (.inl (nI 1)), M1) ∧ FL f49 M M1 ∧ gL M1 49 17 = lN ((s - w + 1) * (s - h + 1)) ∧ gL M1 49 18 = lN (mO v i s w h s) := by
  have t0 : nI 0 = 0 ∨ nI 0 = 1 := Or.inl rfl
  have w0 := wc.1
  rw [C_X12_means]
  simp only [if_pos t0, m_sel h, Option.bind_some]
  rcases R_isC h r wc x1 with ⟨n, e⟩ | ⟨i, hi, rfl, e⟩
  · left
    refine ⟨fun ⟨i, s, w, h, a, b, _⟩ => n ⟨i, a, b⟩, ?_⟩
    rw [e]; rfl
  rw [e]
  simp only [z_rI, Option.bind_some]
  rw [if_neg (show ¬ nI 1 = 0 by decide +kernel)]
  have hc := wc.2 i hi
  have iq : ∀ i', i' < v 0 → nI i = nI i' → i' = i := fun i' h1 h2 => ((nI_eq (by omega) (by omega)).mp h2).symm
  have hd := hc.1.2.1
  simp only [m_sel h, Option.bind_some, R_axes h r (show i < 8 by omega), z_rI, R_can h r (show i < 8 by omega) (show 0 < 3 by omega) hc, R_can h r (show i < 8 by omega) (show 1 < 3 by omega) hc, nI_eq (show cD v i < 2 ^ 31 by omega) (show 2 < 2 ^ 31 by omega)]
  by_cases d2 : cD v i = 2
  rotate_left
  · left
    rw [if_neg d2]
    refine ⟨?_, rfl⟩
    rintro ⟨i', s, w, h, a, b, c, _⟩
    have := iq i' a b
    subst this
    exact d2 c
  rw [if_pos d2]
  rcases rg2 x2 (show 64 + 1 < 2 ^ 31 by omega) (show 1 ≤ 64 by omega) with z | ⟨z1, z2⟩ | ⟨s, hs1, hs2, rfl, z1, z2⟩
  · left
    refine ⟨?_, if_pos z⟩
    rintro ⟨_, s, w, h, _, _, _, rfl, a, b, _⟩
    exact nI_nlt a (by omega) z
  · left
    refine ⟨?_, by rw [if_neg z1, if_pos z2]⟩
    rintro ⟨_, s, w, h, _, _, _, rfl, a, b, _⟩
    exact nI_nlt b (by omega) z2
  rw [if_neg z1, if_neg z2]
  have rm0 := room_le hc (show 0 < 3 by omega)
  have rm1 := room_le hc (show 1 < 3 by omega)
  have sq : ∀ s', s' ≤ 64 → nI s = nI s' → s' = s := fun s' h1 h2 => ((nI_eq (by omega) (by omega)).mp h2).symm
  by_cases c0 : s ≤ cB (cK v i) ^ cL v i 0
  rotate_left
  · left
    rw [if_pos (nI_lt (by omega) (by omega))]
    refine ⟨?_, rfl⟩
    rintro ⟨i', s', w, h, a, b, _, c, _, d, ee, _⟩
    have := iq i' a b
    subst this
    have := sq s' d c
    subst this
    exact c0 ee
  rw [if_neg (nI_nlt c0 (by omega))]
  by_cases c1 : s ≤ cB (cK v i) ^ cL v i 1
  rotate_left
  · left
    rw [if_pos (nI_lt (by omega) (by omega))]
    refine ⟨?_, rfl⟩
    rintro ⟨i', s', w, h, a, b, _, c, _, d, _, ee, _⟩
    have := iq i' a b
    subst this
    have := sq s' d c
    subst this
    exact c1 ee
  rw [if_neg (nI_nlt c1 (by omega))]
  rcases rg2 x3 (lo := 1) (hi := s) (by omega) hs1 with z | ⟨z1, z2⟩ | ⟨w, hw1, hw2, rfl, z1, z2⟩
  · left
    refine ⟨?_, if_pos z⟩
    rintro ⟨_, s', w, h, _, _, _, _, _, s64, _, _, rfl, a, b, _⟩
    exact nI_nlt a (by omega) z
  · left
    refine ⟨?_, by rw [if_neg z1, if_pos z2]⟩
    rintro ⟨_, s', w, h, _, _, _, c, _, d, _, _, rfl, a, b, _⟩
    have := sq s' d c
    subst this
    exact nI_nlt b (by omega) z2
  rw [if_neg z1, if_neg z2]
  rcases rg2 x4 (lo := 1) (hi := s) (by omega) hs1 with z | ⟨z1, z2⟩ | ⟨u, hu1, hu2, rfl, z1, z2⟩
  · left
    refine ⟨?_, if_pos z⟩
    rintro ⟨_, s', w, h, _, _, _, _, _, s64, _, _, _, _, _, rfl, a, b⟩
    exact nI_nlt a (by omega) z
  · left
    refine ⟨?_, ?_⟩
    · rintro ⟨_, s', w, h, _, _, _, c, _, d, _, _, _, _, _, rfl, a, b⟩
      have := sq s' d c
      subst this
      exact nI_nlt b (by omega) z2
    · rw [if_neg z1, if_neg]
      intro y
      have a1 := Int32.le_iff_toInt_le.mp y
      have a2 := Int32.lt_iff_toInt_lt.mp z2
      omega
  right
  rw [if_neg z1, if_pos (nI_le hu2 (by omega))]
  have f49' : f49 49 := rfl
  have hA : SH (stL M 49 17 (lN ((s - w + 1) * (s - u + 1)))) := h
  have hB : SH (stL (stL M 49 17 (lN ((s - w + 1) * (s - u + 1)))) 49 18 (lN 0)) := h
  have fB : FL f49 M (stL (stL M 49 17 (lN ((s - w + 1) * (s - u + 1)))) 49 18 (lN 0)) := ((FL.rf f49 M).st f49').st f49'
  obtain ⟨M1, k1, k2, k3, k4⟩ := R_me98 (show i < 8 by omega) hc d2 hs2 c0 c1 hw2 hu2 (W := (s - w + 1) * (s - u + 1)) s 0 (by omega) hB (fB.r49 r) (by rw [gL_stL, if_neg (by omega), gL_stL, if_pos ⟨rfl, rfl⟩]) (by rw [gL_stL, if_pos ⟨rfl, rfl⟩]; rfl) none none none none none
  refine ⟨i, s, w, u, M1, ⟨hi, rfl, d2, rfl, hs1, hs2, c0, c1, rfl, hw1, hw2, rfl, hu1, hu2⟩, ?_, fB.tr k2, k3, k4⟩
  simp only [pk_sub hw2, pk_sub hu2, nI_l (show s - w < 2 ^ 31 by omega), nI_l (show s - u < 2 ^ 31 by omega), lN_add, lN_mul, m_sL h, Option.bind_some, m_sL hA, k1]
theorem R_common {M : q_M} {a b : Nat} (ha : a < 2 ^ 62) (hb : b < 2 ^ 62) : q_CL 221 [.inr (.inl (lN a)), .inr (.inl (lN b))] M = some (some (.inr (.inl (lN (Nat.gcd a b)))), M) := by
  rw [C_X12_common]
  have key : ∀ n x y, y < n → x < 2 ^ 62 → y < 2 ^ 62 → ∀ d1 d3 d5 d7 d8 d9, q_RL T_X12_common (6, [some (.inr (.inl (lN a))), d1, some (.inr (.inl (lN b))), d3, some (.inr (.inl (lN x))), d5, some (.inr (.inl (lN y))), d7, d8, d9], [], M) = some (some (.inr (.inl (lN (Nat.gcd x y)))), M) := by
    intro n
    induction n with
    | zero => intro x y h; omega
    | succ n ih =>
      intro x y hy hx hy2 d1 d3 d5 d7 d8 d9
      rw [E_X12_common_6]
      simp only [lg_cmp_eq, pk_lEQ (show y < 2 ^ 63 by omega) (show 0 < 2 ^ 63 by omega)]
      by_cases c : y = 0
      · rw [if_pos c, c, Nat.gcd_zero_right]
      · have c2 : ¬ lN y = 0 := fun z => c ((pk_lEQ (show y < 2 ^ 63 by omega) (show 0 < 2 ^ 63 by omega)).mp z)
        have ml := Nat.mod_lt x (show y > 0 by omega)
        rw [if_neg c, if_neg c2, pk_lRem (by omega) (by omega) (by omega), ih y (x % y) (by omega) hy2 (by omega), Nat.gcd_comm y (x % y), ← Nat.gcd_rec y x, Nat.gcd_comm y x]
  exact key (b + 1) a b (by omega) ha hb none none none none none none
def meA (v : Nat → Nat) (i s w h t : Nat) : Nat := if t = 0 then (s - w + 1) * (s - h + 1) else if t = 1 then mO v i s w h s else if t = 2 then mO v i s w h s / Nat.gcd (mO v i s w h s) ((s - w + 1) * (s - h + 1)) else (s - w + 1) * (s - h + 1) / Nat.gcd (mO v i s w h s) ((s - w + 1) * (s - h + 1))
theorem R_mean {v : Nat → Nat} (wc : WC v) {M : q_M} (h : SH M) (r : RI M v) (x1 x2 x3 x4 x5 : Int32) : (¬ (∃ i s w h t, meC v x1 x2 x3 x4 i s w h ∧ x5 = nI t ∧ t ≤ 3) ∧ ∃ M1, q_CL 222 [.inr (.inr (some 49)), .inl x1, .inl x2, .inl x3, .inl x4, .inl x5] M = some (some (.inr (.inl (-1))), M1) ∧ FL f49 M M1) ∨ ∃ i s w h t M1, meC v x1 x2 x3 x4 i s w h ∧ x5 = nI t ∧ t ≤ 3 ∧ q_CL 222 [.inr (.inr (some 49)), .inl x1, .inl x2, .inl x3, .inl x4, .inl x5] M = some (some (.inr (.inl (lN (meA v i s w h t)))), M1) ∧ FL f49 M M1 := by
  rw [C_X12_mean]
  rcases ix3 x5 (show 3 + 1 < 2 ^ 31 by omega) with z | ⟨z1, z2, z3⟩ | ⟨t, ht, rfl⟩
  · left
    refine ⟨?_, M, if_pos z, FL.rf _ M⟩
    rintro ⟨_, _, _, _, t, _, rfl, ht⟩
    exact nI_pos (by omega) z
  · left
    refine ⟨?_, M, by rw [if_neg z1, if_pos z2], FL.rf _ M⟩
    rintro ⟨_, _, _, _, t, _, rfl, ht⟩
    exact z3 (nI_le ht (by omega))
  rw [if_neg (nI_pos (by omega)), if_neg (nI_nlt ht (by omega))]
  simp only [m_sel h, Option.bind_some]
  rcases R_means wc h r x1 x2 x3 x4 with ⟨n, e⟩ | ⟨i, s, w, u, M1, mc, e, fM, e7, e8⟩
  · left
    refine ⟨fun ⟨i, s, w, h, t, a, _⟩ => n ⟨i, s, w, h, a⟩, M, ?_, FL.rf _ M⟩
    rw [e]; rfl
  right
  refine ⟨i, s, w, u, t, M1, mc, rfl, ht, ?_, fM⟩
  rw [e]
  simp only [z_rI, Option.bind_some]
  rw [if_neg (show ¬ nI 1 = 0 by decide +kernel)]
  have h1 := fM.sh h
  obtain ⟨_, _, _, _, s1, s64, _, _, _, w1, ws, _, u1, us⟩ := mc
  have bO := mO_b2 v i s w u s64 s s64
  have bW := Nat.mul_le_mul (show s - w + 1 ≤ 64 by omega) (show s - u + 1 ≤ 64 by omega)
  have pW : 0 < (s - w + 1) * (s - u + 1) := Nat.mul_pos (by omega) (by omega)
  have gp : 0 < Nat.gcd (mO v i s w u s) ((s - w + 1) * (s - u + 1)) := Nat.gcd_pos_of_pos_right _ pW
  have gl : Nat.gcd (mO v i s w u s) ((s - w + 1) * (s - u + 1)) ≤ (s - w + 1) * (s - u + 1) := Nat.gcd_le_right _ pW
  have gz : ¬ lN (Nat.gcd (mO v i s w u s) ((s - w + 1) * (s - u + 1))) = 0 := fun z => by
    have := (pk_lEQ (show Nat.gcd (mO v i s w u s) ((s - w + 1) * (s - u + 1)) < 2 ^ 63 by omega) (show 0 < 2 ^ 63 by omega)).mp z
    omega
  rw [show (0 : Int32) = nI 0 from nI_0.symm]
  simp only [nI_eq (show t < 2 ^ 31 by omega) (show 0 < 2 ^ 31 by omega), nI_eq (show t < 2 ^ 31 by omega) (show 1 < 2 ^ 31 by omega), nI_eq (show t < 2 ^ 31 by omega) (show 2 < 2 ^ 31 by omega), m_fL h1, Option.bind_some, e7, e8, R_common (M := M1) (show mO v i s w u s < 2 ^ 62 by omega) (show (s - w + 1) * (s - u + 1) < 2 ^ 62 by omega), z_rL, if_neg gz, pk_lDiv (show mO v i s w u s < 2 ^ 63 by omega) gp (show Nat.gcd (mO v i s w u s) ((s - w + 1) * (s - u + 1)) < 2 ^ 63 by omega), pk_lDiv (show (s - w + 1) * (s - u + 1) < 2 ^ 63 by omega) gp (show Nat.gcd (mO v i s w u s) ((s - w + 1) * (s - u + 1)) < 2 ^ 63 by omega)]
  unfold meA
  by_cases t0 : t = 0
  · simp only [if_pos t0]
  by_cases t1 : t = 1
  · simp only [if_neg t0, if_pos t1]
  by_cases t2 : t = 2
  · simp only [if_neg t0, if_neg t1, if_pos t2]
  simp only [if_neg t0, if_neg t1, if_neg t2]
theorem R_compare {v : Nat → Nat} (wc : WC v) {M : q_M} (h : SH M) (r : RI M v) (x1 x2 x3 x4 x5 : Int32) : (¬ (∃ i j s w h, meC v x1 x3 x4 x5 i s w h ∧ meC v x2 x3 x4 x5 j s w h) ∧ ∃ M1, q_CL 223 [.inr (.inr (some 49)), .inl x1, .inl x2, .inl x3, .inl x4, .inl x5] M = some (some (.inl (-2)), M1) ∧ FL f49 M M1) ∨ ∃ i j s w h M1, meC v x1 x3 x4 x5 i s w h ∧ meC v x2 x3 x4 x5 j s w h ∧ q_CL 223 [.inr (.inr (some 49)), .inl x1, .inl x2, .inl x3, .inl x4, .inl x5] M = some (some (.inl (if mO v i s w h s ≤ mO v j s w h s then (if mO v j s w h s ≤ mO v i s w h s then nI 0 else -1) else nI 1)), M1) ∧ FL f49 M M1 := by
  rw [C_X12_compare]
  simp only [m_sel h, Option.bind_some]
  rcases R_means wc h r x1 x3 x4 x5 with ⟨n, e⟩ | ⟨i, s, w, u, M1, mc, e, fM, e7, e8⟩
  · left
    refine ⟨fun ⟨i, j, s, w, h, a, _⟩ => n ⟨i, s, w, h, a⟩, M, ?_, FL.rf _ M⟩
    rw [e]; rfl
  rw [e]
  simp only [z_rI, Option.bind_some]
  rw [if_neg (show ¬ nI 1 = 0 by decide +kernel)]
  have h1 := fM.sh h
  simp only [m_fL h1, Option.bind_some, e8, m_sel h1]
  rcases R_means wc h1 (fM.r49 r) x2 x3 x4 x5 with ⟨n, e'⟩ | ⟨j, s', w', u', M2, mc', e', fM', e7', e8'⟩
  · left
    refine ⟨fun ⟨i, j, s, w, h, _, a⟩ => n ⟨j, s, w, h, a⟩, M1, ?_, fM⟩
    rw [e']; rfl
  right
  have mc0 := mc
  have mc1 := mc'
  obtain ⟨_, _, _, q1, s1, s64, _, _, q2, w1, ws, q3, u1, us⟩ := mc
  obtain ⟨_, _, _, q1', s1', s64', _, _, q2', w1', ws', q3', u1', us'⟩ := mc'
  have es : s' = s := (nI_eq (by omega) (by omega)).mp (q1'.symm.trans q1)
  have ew : w' = w := (nI_eq (by omega) (by omega)).mp (q2'.symm.trans q2)
  have eu : u' = u := (nI_eq (by omega) (by omega)).mp (q3'.symm.trans q3)
  subst es
  subst ew
  subst eu
  have bO := mO_b2 v i s' w' u' s64 s' s64
  have bO2 := mO_b2 v j s' w' u' s64 s' s64
  have h2 := fM'.sh h1
  refine ⟨i, j, s', w', u', M2, mc0, mc1, ?_, fM.tr fM'⟩
  rw [e']
  simp only [z_rI, Option.bind_some]
  rw [if_neg (show ¬ nI 1 = 0 by decide +kernel)]
  simp only [m_fL h2, Option.bind_some, e8', lg_cmp_le, lg_cmp_ge, pk_lLE (show mO v i s' w' u' s' < 2 ^ 63 by omega) (show mO v j s' w' u' s' < 2 ^ 63 by omega), pk_lLE (show mO v j s' w' u' s' < 2 ^ 63 by omega) (show mO v i s' w' u' s' < 2 ^ 63 by omega)]
  by_cases c : mO v i s' w' u' s' ≤ mO v j s' w' u' s'
  · simp only [if_pos c]
    by_cases c2 : mO v j s' w' u' s' ≤ mO v i s' w' u' s'
    · simp only [if_pos c2]
    · simp only [if_neg c2]
  · simp only [if_neg c]
