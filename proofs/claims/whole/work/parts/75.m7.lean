/-! ===== THE REFERENCE: places and numbers ===== -/
theorem pw_dI (v : Nat → Nat) (i f : Nat) : (cmI v i).1 ^ dI v i f = bI v i ^ f := by
  unfold cmI dI bI rD rB
  rw [cmO_B]
  by_cases h2 : cK v i = 2
  · rw [if_pos h2, if_pos h2, show cB (cK v i) = 2 by rw [h2]; rfl, Nat.pow_mul]
  · rw [if_neg h2, if_neg h2]
theorem dI_mI {v : Nat → Nat} {i : Nat} (hc : okI v i) : dI v i (mI v i) = lsm (cL v i) := by
  unfold dI mI rD rM
  by_cases h2 : cK v i = 2
  · rw [if_pos h2, if_pos h2]
    obtain ⟨⟨k4, kd, kL, _, kz, ke, k3⟩, _⟩ := hc
    have a1 := ke (Or.inr (Or.inl h2)) 1 (by omega)
    unfold lsm
    rcases kd with q | q
    · have a2 := kz 2 (by omega) (by omega)
      rw [q]; omega
    · have a2 := ke (Or.inr (Or.inl h2)) 2 (by omega)
      rw [q]; omega
  · rw [if_neg h2, if_neg h2]
theorem cS_pw {v : Nat → Nat} {i : Nat} (hc : okI v i) : cS v i = (cmI v i).1 ^ lsm (cL v i) ∧ cS v i = bI v i ^ mI v i := by
  have e : cS v i = (cmI v i).1 ^ lsm (cL v i) := by unfold cmI; rw [cmO_B]; exact hc.2
  exact ⟨e, by rw [e, ← dI_mI hc, pw_dI]⟩
theorem dI_add (v : Nat → Nat) (i a b : Nat) : dI v i (a + b) = dI v i a + dI v i b := by
  unfold dI rD
  by_cases h2 : cK v i = 2
  · rw [if_pos h2, if_pos h2, if_pos h2, Nat.mul_add]
  · rw [if_neg h2, if_neg h2, if_neg h2]
theorem dI_le {v : Nat → Nat} {i f : Nat} (hc : okI v i) (hf : f ≤ mI v i) : dI v i f ≤ lsm (cL v i) := by
  rw [← dI_mI hc, show mI v i = f + (mI v i - f) by omega, dI_add]; omega
theorem gdI {v : Nat → Nat} {i : Nat} (hc : okI v i) : Gd (cmI v i) (lsm (cL v i)) := gd_all hc.1
theorem in0 {v : Nat → Nat} {i : Nat} {q : Nat → Nat} : inb (bx (cmI v i) 0 0) q ↔ ∀ a, a < 3 → q a < cB (cK v i) ^ cL v i a := by
  have e : ∀ a, (bx (cmI v i) 0 0).2.1 a = cB (cK v i) ^ cL v i a := fun a => cmO_R _ _ _ a
  have e0 : ∀ a, (bx (cmI v i) 0 0).1 a = 0 := fun _ => rfl
  unfold inb
  constructor
  · intro h a ha
    have := (h a ha).2
    rw [e, e0, Nat.zero_add] at this; exact this
  · intro h a ha
    rw [e, e0, Nat.zero_add]
    exact ⟨Nat.zero_le _, h a ha⟩
/-- the place of a number, the number of a place -/
def plI (v : Nat → Nat) (i n : Nat) : Nat → Nat := plc (cmI v i) (lsm (cL v i)) n
def npI (v : Nat → Nat) (i : Nat) (q : Nat → Nat) : Nat := np (cmI v i) q (lsm (cL v i))
theorem npI_lt {v : Nat → Nat} {i : Nat} (hc : okI v i) {q : Nat → Nat} (hq : ∀ a, a < 3 → q a < cB (cK v i) ^ cL v i a) : npI v i q < cS v i := by
  rw [(cS_pw hc).1]
  exact (np_in (gdI hc) (in0.mpr hq) _ (Nat.le_refl _)).1
theorem plI_lt {v : Nat → Nat} {i n : Nat} (hc : okI v i) (hn : n < cS v i) : ∀ a, a < 3 → plI v i n a < cB (cK v i) ^ cL v i a := by
  rw [(cS_pw hc).1] at hn
  exact in0.mp (plc_in (gdI hc) hn).1
theorem npI_plI {v : Nat → Nat} {i n : Nat} (hc : okI v i) (hn : n < cS v i) : npI v i (plI v i n) = n := by
  rw [(cS_pw hc).1] at hn
  exact (plc_in (gdI hc) hn).2
theorem cS_62 {v : Nat → Nat} {i : Nat} (hc : okI v i) : cS v i < 2 ^ 61 := by
  have h60 := (ow_60 hc).2
  obtain ⟨⟨k4, kd, kL, _, kz, ke, k3⟩, e⟩ := hc
  rw [e]
  by_cases h3 : cK v i = 3
  · rw [show cB (cK v i) = 3 from if_pos h3]
    have : lsm (cL v i) ≤ 36 := by
      have a0 := k3 h3
      have a1 := ke (Or.inr (Or.inr h3)) 1 (by omega)
      unfold lsm
      rcases kd with q | q
      · have a2 := kz 2 (by omega) (by omega)
        omega
      · have a2 := ke (Or.inr (Or.inr h3)) 2 (by omega)
        omega
    exact Nat.lt_of_le_of_lt (Nat.pow_le_pow_right (by omega) this) (by decide)
  · rw [show cB (cK v i) = 2 from if_neg h3]
    exact Nat.pow_lt_pow_right (by omega) (by omega)
theorem LYr.m {M : q_M} {v : Nat → Nat} {i : Nat} (l : LYr M (cK v i) (cD v i) (cL v i)) (hc : okI v i) : gI M 49 4 = nI (mI v i) := by
  unfold mI rM
  by_cases h2 : cK v i = 2
  · rw [if_pos h2]; exact l.2.1 h2
  · rw [if_neg h2, (l.2.2 h2).1, (ow_60 hc).1]
theorem s54 (a k : Nat) (h : a = 54) : scr a k := Or.inr (by omega)
theorem R_placed {M : q_M} {v : Nat → Nat} (h : SH M) (r : RI M v) {i n : Nat} (hi : i < 8) (hc : okI v i) (hn : n < cS v i) : ∃ M1, q_CL 159 [.inr (.inr (some 49)), .inl (nI i), .inr (.inl (lN n))] M = some (none, M1) ∧ FM M M1 ∧ ∀ a, a < 3 → gI M1 55 a = nI (plI v i n a) := by
  have mb := mI_b hc
  have bb := bI_b hc
  have c61 := cS_62 hc
  obtain ⟨M1, p1, p2, p3⟩ := R_lays h r hi hc
  have h1 := p2.sh h
  obtain ⟨M2, q1, q2, q3⟩ := R_splits h1 bb mb p3.1 (p3.m hc) (show n < 2 ^ 63 by omega)
  have h2 := q2.sh h1
  have l2 : LYr M2 (cK v i) (cD v i) (cL v i) := p3.fr q2 fun a k e => by omega
  obtain ⟨M3, w1, w2, w3⟩ := R_box h2 (q2.ri (p2.ri r)) hi hc l2 (Nat.le_refl (mI v i)) (g := fun k => n / bI v i ^ (mI v i - 1 - k) % bI v i) (fun k hk => ⟨q3 k hk, Nat.mod_lt _ (by omega)⟩)
  refine ⟨M3, ?_, p2.tr ((q2.fm s54).tr (w2.fm bsc_scr)), fun a ha => ?_⟩
  · rw [C_X12_placed]
    simp only [m_sel h, Option.bind_some, p1, z_rV, m_sel h1, q1, m_fI h2, l2.m hc, m_sel h2, w1]
  · have e := (w3 a ha).1
    rw [jn_dg (by omega) (by rw [← (cS_pw hc).2]; exact hn) _ (Nat.le_refl _), Nat.sub_self, Nat.pow_zero, Nat.div_one, dI_mI hc] at e
    exact e
theorem R_numOf {M : q_M} {v : Nat → Nat} (h : SH M) (r : RI M v) {i : Nat} (hi : i < 8) (hc : okI v i) {q : Nat → Nat} (hq : ∀ a, a < 3 → q a < cB (cK v i) ^ cL v i a) : ∃ M1, q_CL 157 [.inr (.inr (some 49)), .inl (nI i), .inl (nI (q 0)), .inl (nI (q 1)), .inl (nI (q 2))] M = some (some (.inr (.inl (lN (npI v i q)))), M1) ∧ FM M M1 := by
  have mb := mI_b hc
  have bb := bI_b hc
  have gd := gdI hc
  have r0 := room_le hc (show 0 < 3 by omega)
  have r1 := room_le hc (show 1 < 3 by omega)
  have r2 := room_le hc (show 2 < 3 by omega)
  have z0 := hq 0 (by omega)
  have z1 := hq 1 (by omega)
  have z2 := hq 2 (by omega)
  have hN := npI_lt hc hq
  have hNp : npI v i q < bI v i ^ mI v i := by rw [← (cS_pw hc).2]; exact hN
  have hg : ∀ k, npI v i q / bI v i ^ (mI v i - 1 - k) % bI v i < bI v i := fun k => Nat.mod_lt _ (by omega)
  generalize hgg : (fun k => npI v i q / bI v i ^ (mI v i - 1 - k) % bI v i) = g at *
  have hg2 : ∀ k, g k < bI v i := fun k => by rw [← hgg]; exact hg k
  have hjn : ∀ f, f ≤ mI v i → jn (bI v i) g f = np (cmI v i) q (dI v i f) := by
    intro f hf
    rw [← hgg, jn_dg (by omega) hNp f hf]
    have e := np_div gd (in0.mpr hq) (dI v i (mI v i - f)) (dI v i f) (by rw [← dI_add, show f + (mI v i - f) = mI v i by omega, dI_mI hc]; exact Nat.le_refl _)
    rw [← dI_add, show f + (mI v i - f) = mI v i by omega, dI_mI hc, pw_dI] at e
    exact e
  obtain ⟨M0, p1, p2, p3⟩ := R_lays h r hi hc
  have fs : ∀ a k, ((a = 54) ∨ bsc a k) → scr a k := fun a k e => by
    rcases e with e | e
    · exact s54 a k e
    · exact bsc_scr a k e
  have fl : ∀ a k, ((a = 54) ∨ bsc a k) → ¬ (a = 49 ∧ (k = 3 ∨ k = 4)) ∧ a ≠ 53 := fun a k e => by
    rcases e with e | e
    · omega
    · exact bsc_ly a k e
  have inner : ∀ k, k < mI v i → ∀ n t, t + n = g k → ∀ M, SH M → RI M v → LYr M (cK v i) (cD v i) (cL v i) → (∀ j, j < k → gI M 54 j = nI (g j)) → gI M 54 k = nI t → BXf M (bx (cmI v i) (dI v i (k + 1)) (jn (bI v i) g k * bI v i + t)).1 (bx (cmI v i) (dI v i (k + 1)) (jn (bI v i) g k * bI v i + t)).2.1 → ∃ M1, q_RL T_X12_numberOf (34, [some (.inr (.inr (some 49))), some (.inl (nI i)), some (.inl (nI (q 0))), some (.inl (nI (q 1))), some (.inl (nI (q 2))), some (.inl (nI k))], [], M) = q_RL T_X12_numberOf (8, [some (.inr (.inr (some 49))), some (.inl (nI i)), some (.inl (nI (q 0))), some (.inl (nI (q 1))), some (.inl (nI (q 2))), some (.inl (nI (k + 1)))], [], M1) ∧ fr (fun a k => a = 54 ∨ bsc a k) M M1 ∧ ∀ j, j < k + 1 → gI M1 54 j = nI (g j) := by
    intro k hk n
    induction n with
    | zero =>
      intro t ht M h r l hj hkt b
      rw [show t = g k by omega] at *
      have hin := (np_in gd (in0.mpr hq) (dI v i (k + 1)) (dI_le hc (by omega))).2
      rw [← hjn (k + 1) (by omega)] at hin
      have b0 := b 0 (by omega)
      have b1 := b 1 (by omega)
      have b2 := b 2 (by omega)
      have i0 := hin 0 (by omega)
      have i1 := hin 1 (by omega)
      have i2 := hin 2 (by omega)
      rw [show jn (bI v i) g k * bI v i + g k = jn (bI v i) g (k + 1) from rfl] at b0 b1 b2
      refine ⟨M, ?_, fr.rf _ M, fun j hj2 => ?_⟩
      · rw [E_X12_numberOf_34]
        simp only [m_lo h, m_hi h, Option.bind_some, m_a3 h (Or.inl rfl) (show 0 < 3 by omega), m_a3 h (Or.inl rfl) (show 1 < 3 by omega), m_a3 h (Or.inl rfl) (show 2 < 3 by omega), m_a3 h (Or.inr (Or.inl rfl)) (show 0 < 3 by omega), m_a3 h (Or.inr (Or.inl rfl)) (show 1 < 3 by omega), m_a3 h (Or.inr (Or.inl rfl)) (show 2 < 3 by omega), b0.1, b0.2.1, b1.1, b1.2.1, b2.1, b2.2.1]
        rw [if_neg (nI_nlt (by omega) (by omega)), if_neg (nI_nlt (by omega) (by omega)), if_neg (nI_nlt (by omega) (by omega)), if_neg (nI_nlt (by omega) (by omega)), if_neg (nI_nlt (by omega) (by omega)), if_pos (nI_le (by omega) (by omega)), nI_1]
      · by_cases e : j = k
        · rw [e]; exact hkt
        · exact hj j (by omega)
    | succ n ih =>
      intro t ht M h r l hj hkt b
      have hgk := hg2 k
      have hnin : ¬ inb (bx (cmI v i) (dI v i (k + 1)) (jn (bI v i) g k * bI v i + t)) q := fun hin => by
        have hlt : jn (bI v i) g k * bI v i + t < bI v i ^ (k + 1) := kid_lt (jn_lt k fun x _ => hg2 x) (by omega)
        have e := (np_eq gd (dI v i (k + 1)) _ (dI_le hc (by omega)) (by rw [pw_dI]; exact hlt) hin).2
        rw [← hjn (k + 1) (by omega)] at e
        have e2 : jn (bI v i) g (k + 1) = jn (bI v i) g k * bI v i + g k := rfl
        omega
      have hA : SH (stI M 54 k (nI (t + 1))) := h
      have fA : fr (fun a k => a = 54 ∨ bsc a k) M (stI M 54 k (nI (t + 1))) := (fr.rf _ M).st (Or.inl rfl)
      have e5 : jn (bI v i) (va_up g k (t + 1)) (k + 1) = jn (bI v i) g k * bI v i + (t + 1) := by
        show jn (bI v i) (va_up g k (t + 1)) k * bI v i + va_up g k (t + 1) k = _
        rw [va_up_self, jn_cg (g2 := g) k fun x hx => va_up_ne _ _ (by omega)]
      obtain ⟨M2, w1, w2, w3⟩ := R_box hA r hi hc (l.fr fA fl) (f := k + 1) (by omega) (g := va_up g k (t + 1)) (fun x hx => by
        by_cases e : x = k
        · rw [e, gI_self, va_up_self]; exact ⟨rfl, by omega⟩
        · rw [gI_oth (by omega), va_up_ne _ _ e]; exact ⟨hj x (by omega), hg2 x⟩)
      rw [e5] at w3
      have f2 : fr (fun a k => a = 54 ∨ bsc a k) M M2 := fA.tr (w2.wk fun a k e => Or.inr e)
      obtain ⟨M3, u1, u2, u3⟩ := ih (t + 1) (by omega) M2 (w2.sh hA) (w2.ri r) (l.fr f2 fl) (fun x hx => by
        rw [w2.2.2.2 54 x (by unfold bsc; omega), gI_oth (by omega)]; exact hj x hx) (by
        rw [w2.2.2.2 54 k (by unfold bsc; omega), gI_self]) w3
      refine ⟨M3, ?_, f2.tr u2, u3⟩
      rw [← u1, E_X12_numberOf_34]
      have b0 := b 0 (by omega)
      have b1 := b 1 (by omega)
      have b2 := b 2 (by omega)
      simp only [m_lo h, m_hi h, m_dg h, Option.bind_some, m_a3 h (Or.inl rfl) (show 0 < 3 by omega), m_a3 h (Or.inl rfl) (show 1 < 3 by omega), m_a3 h (Or.inl rfl) (show 2 < 3 by omega), m_a3 h (Or.inr (Or.inl rfl)) (show 0 < 3 by omega), m_a3 h (Or.inr (Or.inl rfl)) (show 1 < 3 by omega), m_a3 h (Or.inr (Or.inl rfl)) (show 2 < 3 by omega), b0.1, b0.2.1, b1.1, b1.2.1, b2.1, b2.2.1, m_a60 h (Or.inr rfl) (show k < 60 by omega), hkt, nI_add, m_b60 h (Or.inr rfl) (show k < 60 by omega), m_sel hA, w1, z_rV]
      generalize hbb : bx (cmI v i) (dI v i (k + 1)) (jn (bI v i) g k * bI v i + t) = bb0 at *
      by_cases c1 : q 0 < bb0.1 0
      · rw [if_pos (nI_lt c1 (by omega))]
      rw [if_neg (nI_nlt (by omega) (by omega))]
      by_cases c2 : bb0.1 0 + bb0.2.1 0 - 1 < q 0
      · rw [if_pos (nI_lt c2 (by omega))]
      rw [if_neg (nI_nlt (by omega) (by omega))]
      by_cases c3 : q 1 < bb0.1 1
      · rw [if_pos (nI_lt c3 (by omega))]
      rw [if_neg (nI_nlt (by omega) (by omega))]
      by_cases c4 : bb0.1 1 + bb0.2.1 1 - 1 < q 1
      · rw [if_pos (nI_lt c4 (by omega))]
      rw [if_neg (nI_nlt (by omega) (by omega))]
      by_cases c5 : q 2 < bb0.1 2
      · rw [if_pos (nI_lt c5 (by omega))]
      rw [if_neg (nI_nlt (by omega) (by omega))]
      by_cases c6 : q 2 ≤ bb0.1 2 + bb0.2.1 2 - 1
      · have hlt : jn (bI v i) g k * bI v i + t < bI v i ^ (k + 1) := kid_lt (jn_lt k fun x _ => hg2 x) (by omega)
        have sp := side_pos gd (dI_le hc (show k + 1 ≤ mI v i by omega)) (p := jn (bI v i) g k * bI v i + t) (by rw [pw_dI]; exact hlt)
        rw [hbb] at sp
        have s0 := sp 0 (by omega)
        have s1 := sp 1 (by omega)
        have s2 := sp 2 (by omega)
        refine absurd ?_ hnin
        intro a ha
        rcases (show a = 0 ∨ a = 1 ∨ a = 2 by omega) with rfl | rfl | rfl <;> omega
      · rw [if_neg (nI_ge (by omega) (by omega))]
  have outer : ∀ n k, k + n = mI v i → ∀ M, SH M → RI M v → LYr M (cK v i) (cD v i) (cL v i) → (∀ j, j < k → gI M 54 j = nI (g j)) → ∃ M1, q_RL T_X12_numberOf (8, [some (.inr (.inr (some 49))), some (.inl (nI i)), some (.inl (nI (q 0))), some (.inl (nI (q 1))), some (.inl (nI (q 2))), some (.inl (nI k))], [], M) = some (some (.inr (.inl (lN (npI v i q)))), M1) ∧ fr (fun a k => a = 54 ∨ bsc a k) M M1 := by
    intro n
    induction n with
    | zero =>
      intro k hk M h r l hj
      refine ⟨M, ?_, fr.rf _ M⟩
      rw [E_X12_numberOf_8]
      simp only [m_fI h, Option.bind_some, l.m hc]
      rw [if_pos (nI_le (by omega) (by omega))]
      have e := R_joined h (B := bI v i) (m := mI v i) (g := g) (by omega) (by omega) l.1 (l.m hc) (fun x hx => ⟨hj x (by omega), by have := hg2 x; omega⟩)
      simp only [m_sel h, Option.bind_some, e, z_rL]
      rw [hjn _ (Nat.le_refl _), dI_mI hc]; rfl
    | succ n ih =>
      intro k hk M h r l hj
      have hA : SH (stI M 54 k (nI 0)) := h
      have fA : fr (fun a k => a = 54 ∨ bsc a k) M (stI M 54 k (nI 0)) := (fr.rf _ M).st (Or.inl rfl)
      have e5 : jn (bI v i) (va_up g k 0) (k + 1) = jn (bI v i) g k * bI v i + 0 := by
        show jn (bI v i) (va_up g k 0) k * bI v i + va_up g k 0 k = _
        rw [va_up_self, jn_cg (g2 := g) k fun x hx => va_up_ne _ _ (by omega)]
      obtain ⟨M2, w1, w2, w3⟩ := R_box hA r hi hc (l.fr fA fl) (f := k + 1) (by omega) (g := va_up g k 0) (fun x hx => by
        by_cases e : x = k
        · rw [e, gI_self, va_up_self]; exact ⟨rfl, by omega⟩
        · rw [gI_oth (by omega), va_up_ne _ _ e]; exact ⟨hj x (by omega), hg2 x⟩)
      rw [e5] at w3
      have f2 : fr (fun a k => a = 54 ∨ bsc a k) M M2 := fA.tr (w2.wk fun a k e => Or.inr e)
      obtain ⟨M3, u1, u2, u3⟩ := inner k (by omega) (g k) 0 (by omega) M2 (w2.sh hA) (w2.ri r) (l.fr f2 fl) (fun x hx => by
        rw [w2.2.2.2 54 x (by unfold bsc; omega), gI_oth (by omega)]; exact hj x hx) (by
        rw [w2.2.2.2 54 k (by unfold bsc; omega), gI_self]) w3
      have f3 := f2.tr u2
      obtain ⟨M4, x1, x2⟩ := ih (k + 1) (by omega) M3 (f3.sh h) (f3.ri r) (l.fr f3 fl) u3
      refine ⟨M4, ?_, f3.tr x2⟩
      rw [E_X12_numberOf_8]
      simp only [m_fI h, Option.bind_some, l.m hc]
      rw [if_neg (nI_ge (by omega) (by omega))]
      simp only [m_dg h, Option.bind_some, m_b60 h (Or.inr rfl) (show k < 60 by omega), m_sel hA, nI_add, w1, z_rV, u1, x1]
  obtain ⟨M1, x1, x2⟩ := outer (mI v i) 0 (by omega) M0 (p2.sh h) (p2.ri r) p3 (fun j hj => by omega)
  refine ⟨M1, ?_, p2.tr (x2.fm fs)⟩
  rw [C_X12_numberOf]
  simp only [m_sel h, Option.bind_some, p1, z_rV, x1]
