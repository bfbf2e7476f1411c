/-! ===== THE REFERENCE: boxes of TURNING; all boxes ===== -/
theorem gray8 : ∀ w, w < 8 → nI w ^^^ (nI w >>> ((nI 1) &&& 31)) = nI (w ^^^ w / 2) ∧ w ^^^ w / 2 < 8 ∧ (w < 4 → w ^^^ w / 2 < 4) := by decide +kernel
theorem bit8 : ∀ w, w < 8 → ∀ x, x < 3 → (x < 2 → (nI w >>> (((nI 2 - nI 1) - nI x) &&& 31)) &&& nI 1 = nI (w / 2 ^ (2 - 1 - x) % 2)) ∧ (nI w >>> (((nI 3 - nI 1) - nI x) &&& 31)) &&& nI 1 = nI (w / 2 ^ (3 - 1 - x) % 2) := by decide +kernel
theorem bit_d {d w x : Nat} (hd : d = 2 ∨ d = 3) (hw : w < 8) (hx : x < d) : (nI w >>> (((nI d - nI 1) - nI x) &&& 31)) &&& nI 1 = nI (w / 2 ^ (d - 1 - x) % 2) := by
  rcases hd with rfl | rfl
  · exact (bit8 w hw x (by omega)).1 hx
  · exact (bit8 w hw x hx).2
theorem R_bxT {v : Nat → Nat} {i : Nat} (hi : i < 8) (hc : okI v i) (h2 : cK v i = 2) {f : Nat} (hf : f ≤ cL v i 0) {g : Nat → Nat} : ∀ n k, k + n = f → ∀ M d5 d6 d7 d8 e t, SH M → RI M v → (∀ k, k < f → gI M 54 k = nI (g k) ∧ g k < 2 ^ cD v i) → BXf M (bx (cmO 2 (cD v i) (cL v i)) (cD v i * k) (jn (2 ^ cD v i) g k)).1 (bx (cmO 2 (cD v i) (cL v i)) (cD v i * k) (jn (2 ^ cD v i) g k)).2.1 → (bx (cmO 2 (cD v i) (cL v i)) (cD v i * k) (jn (2 ^ cD v i) g k)).2.2 = e * 32 + t * 8 → e < 2 ^ cD v i → t < cD v i → gI M 49 10 = nI e → gI M 49 11 = nI t → (∀ a, a < cD v i → (bx (cmO 2 (cD v i) (cL v i)) (cD v i * k) (jn (2 ^ cD v i) g k)).2.1 a = 2 ^ (cL v i 0 - k)) → ∃ M1, q_RL T_X12_box (66, [some (.inr (.inr (some 49))), some (.inl (nI i)), some (.inl (nI f)), some (.inl (nI (cD v i))), some (.inl (nI k)), d5, d6, d7, d8], [], M) = some (none, M1) ∧ fr bsc M M1 ∧ BXf M1 (bx (cmO 2 (cD v i) (cL v i)) (cD v i * f) (jn (2 ^ cD v i) g f)).1 (bx (cmO 2 (cD v i) (cL v i)) (cD v i * f) (jn (2 ^ cD v i) g f)).2.1 := by
  obtain ⟨⟨k4, kd, kL, _, kz, ke, k3⟩, _⟩ := hc
  have hL0 := kL 0 (by omega)
  generalize cD v i = d at *
  have h8 : 2 ^ d ≤ 8 := by rcases kd with rfl | rfl <;> decide
  intro n
  induction n with
  | zero =>
    intro k hk M d5 d6 d7 d8 e t h r g1 b _ _ _ _ _ _
    refine ⟨M, ?_, fr.rf _ M, ?_⟩
    · rw [E_X12_box_66, if_pos (nI_le (by omega) (by omega))]
    · rw [← show k = f by omega]; exact b
  | succ n ih =>
    intro k hk M d5 d6 d7 d8 e t h r g1 b es he ht me mt sdv
    have gk := g1 k (by omega)
    have hwl : g k < 8 := by omega
    have lq := lev kd he ht gk.2 es
    have ekey : jn (2 ^ d) g k * 2 ^ d + g k = jn (2 ^ d) g (k + 1) := rfl
    rw [ekey] at lq
    have gy := gray8 (g k) hwl
    have gyd : g k ^^^ g k / 2 < 2 ^ d := by
      rcases kd with rfl | rfl
      · exact gy.2.2 gk.2
      · exact gy.2.1
    have tl8 := tlN_lt kd (t + 1) _ gyd
    have xr := xor8 (tlN d (g k ^^^ g k / 2) (t + 1)) (by omega) e (by omega)
    have er : tlN d (g k ^^^ g k / 2) (t + 1) ^^^ e = rlv d e t (g k) := rfl
    rw [er] at xr
    rw [E_X12_box_66, if_neg (nI_ge (by omega) (by omega))]
    simp only [m_dg h, Option.bind_some, m_a60 h (Or.inr rfl) (show k < 60 by omega), gk.1, m_sel h, R_kind h r hi, z_rI]
    rw [if_pos (by rw [h2])]
    simp only [m_fI h, Option.bind_some, me, mt, gy.1, nI_add, R_tl kd (show t + 1 < 2 ^ 30 by omega) gyd, z_rI, xr.1]
    obtain ⟨l1, l2, l3, l4, l5⟩ := lq
    generalize hb0 : bx (cmO 2 d (cL v i)) (d * k) (jn (2 ^ d) g k) = b0 at *
    generalize hb1 : bx (cmO 2 d (cL v i)) (d * (k + 1)) (jn (2 ^ d) g (k + 1)) = b1 at *
    have ep : 2 ^ (cL v i 0 - k) = 2 ^ (cL v i 0 - (k + 1)) * 2 := by
      rw [← Nat.pow_succ, show (cL v i 0 - (k + 1)).succ = cL v i 0 - k by omega]
    have p0 : 0 < 2 ^ (cL v i 0 - (k + 1)) := Nat.two_pow_pos _
    have half : ∀ a, a < d → b0.2.1 a / 2 = 2 ^ (cL v i 0 - (k + 1)) := by
      intro a ha
      rw [sdv a ha, ep]; omega
    have inner : ∀ m y, y + m = d → ∀ M, SH M → RI M v → (∀ k, k < f → gI M 54 k = nI (g k) ∧ g k < 2 ^ d) → gI M 49 10 = nI e → gI M 49 11 = nI t → BXf M (fun a => if a < y then b1.1 a else b0.1 a) (fun a => if a < y then b1.2.1 a else b0.2.1 a) → ∃ M1, q_RL T_X12_box (117, [some (.inr (.inr (some 49))), some (.inl (nI i)), some (.inl (nI f)), some (.inl (nI d)), some (.inl (nI k)), some (.inl (nI (g k))), some (.inl (nI (rlv d e t (g k)))), some (.inl (nI y)), d8], [], M) = some (none, M1) ∧ fr bsc M M1 ∧ BXf M1 (bx (cmO 2 d (cL v i)) (d * f) (jn (2 ^ d) g f)).1 (bx (cmO 2 d (cL v i)) (d * f) (jn (2 ^ d) g f)).2.1 := by
      intro m
      induction m with
      | zero =>
        intro y hy M h r g1 me mt b
        rw [show y = d by omega] at *
        rw [E_X12_box_117, if_pos (nI_le (Nat.le_refl _) (by omega))]
        simp only [m_sel h, Option.bind_some, R_turns h kd gk.2 ht he me mt, z_rV, nI_1]
        have f2 : fr bsc M (stI (stI M 49 10 (nI (tuE d e t (g k)))) 49 11 (nI (tuU d t (g k)))) := ((fr.rf bsc M).st (Or.inl (by omega))).st (Or.inl (by omega))
        obtain ⟨M2, w1, w2, w3⟩ := ih (k + 1) (by omega) (stI (stI M 49 10 (nI (tuE d e t (g k)))) 49 11 (nI (tuU d t (g k)))) (some (.inl (nI (g k)))) (some (.inl (nI (rlv d e t (g k))))) (some (.inl (nI d))) d8 (tuE d e t (g k)) (tuU d t (g k)) h r (fun x hx => by
          refine ⟨?_, (g1 x hx).2⟩
          rw [f2.2.2.2 54 x (by unfold bsc; omega)]; exact (g1 x hx).1) (by
          rw [hb1]
          intro a ha
          have q := b a ha
          rw [gI_oth (by omega), gI_oth (by omega), gI_oth (by omega), gI_oth (by omega)]
          by_cases had : a < d
          · simp only [if_pos had] at q; exact q
          · simp only [if_neg had] at q
            rw [(l2 a (by omega)).1, (l2 a (by omega)).2]; exact q) (by rw [hb1]; exact l3) l4 l5 (by rw [gI_oth (by omega), gI_self]) gI_self (fun a ha => by rw [hb1, (l1 a ha).1, half a ha])
        exact ⟨M2, w1, f2.tr w2, w3⟩
      | succ m ihm =>
        intro y hy M h r g1 me mt b
        rw [E_X12_box_117, if_neg (nI_ge (by omega) (by omega))]
        simp only [m_sel h, Option.bind_some]
        rw [bit_d kd xr.2 (by omega)]
        have ey : (if y < y then b1.2.1 y else b0.2.1 y) = b0.2.1 y := if_neg (Nat.lt_irrefl y)
        have ey1 : (if y < y then b1.1 y else b0.1 y) = b0.1 y := if_neg (Nat.lt_irrefl y)
        obtain ⟨M1, p1, p2, p3⟩ := R_narB h b (a := y) (t := rlv d e t (g k) / 2 ^ (d - 1 - y) % 2) (B := 2) (p := b0.2.1 y / 2) (by omega) (Or.inl rfl) (by rw [half y (by omega)]; exact p0) (by rw [ey, half y (by omega), sdv y (by omega)]; exact ep) (by omega)
        rw [p1]
        simp only [z_rV, Option.bind_some, nI_1]
        obtain ⟨M2, w1, w2, w3⟩ := ihm (y + 1) (by omega) M1 (p2.sh h) (p2.ri r) (fun x hx => by
          refine ⟨?_, (g1 x hx).2⟩
          rw [p2.2.2.2 54 x (by unfold b56; omega)]; exact (g1 x hx).1) (by rw [p2.2.2.2 49 10 (by unfold b56; omega)]; exact me) (by rw [p2.2.2.2 49 11 (by unfold b56; omega)]; exact mt) (by
          intro a ha
          have q := p3 a ha
          rw [ey, ey1, ← (l1 y (by omega)).2, ← (l1 y (by omega)).1] at q
          by_cases ea : a = y
          · subst ea
            rw [va_up_self, va_up_self] at q
            simp only [if_pos (Nat.lt_succ_self a)]; exact q
          · rw [va_up_ne _ _ ea, va_up_ne _ _ ea] at q
            by_cases hay : a < y
            · simp only [if_pos hay] at q
              simp only [if_pos (show a < y + 1 by omega)]; exact q
            · simp only [if_neg hay] at q
              simp only [if_neg (show ¬ a < y + 1 by omega)]; exact q)
        exact ⟨M2, w1, (p2.wk b56_bsc).tr w2, w3⟩
    exact inner d 0 (by omega) M h r g1 me mt (by
      intro a ha
      simp only [if_neg (Nat.not_lt_zero a)]
      exact b a ha)
/-! all kinds -/
/-- base of the reference's digits, how many there are, and the depth of a box of f digits -/
def rB (K d : Nat) : Nat := if K = 2 then 2 ^ d else cB K
def rM (K : Nat) (L : Nat → Nat) : Nat := if K = 2 then L 0 else lsm L
def rD (K d f : Nat) : Nat := if K = 2 then d * f else f
abbrev cmI (v : Nat → Nat) (i : Nat) : Cm := cmO (cK v i) (cD v i) (cL v i)
abbrev bI (v : Nat → Nat) (i : Nat) : Nat := rB (cK v i) (cD v i)
abbrev mI (v : Nat → Nat) (i : Nat) : Nat := rM (cK v i) (cL v i)
abbrev dI (v : Nat → Nat) (i f : Nat) : Nat := rD (cK v i) (cD v i) f
theorem bI_b {v : Nat → Nat} {i : Nat} (hc : okI v i) : 2 ≤ bI v i ∧ bI v i ≤ 8 := by
  have kd := hc.1.2.1
  unfold bI rB
  by_cases h2 : cK v i = 2
  · rw [if_pos h2]
    rcases kd with q | q <;> rw [q] <;> decide
  · rw [if_neg h2]
    have := cB_2 (cK v i)
    omega
theorem mI_b {v : Nat → Nat} {i : Nat} (hc : okI v i) : 1 ≤ mI v i ∧ mI v i ≤ 60 := by
  have h60 := (ow_60 hc).2
  obtain ⟨⟨k4, kd, kL, k1, kz, ke, k3⟩, _⟩ := hc
  unfold mI rM
  have a := k1 0 (by omega)
  have b := kL 0 (by omega)
  by_cases h2 : cK v i = 2
  · rw [if_pos h2]; omega
  · rw [if_neg h2]; unfold lsm at *; omega
theorem R_box {M : q_M} {v : Nat → Nat} (h : SH M) (r : RI M v) {i : Nat} (hi : i < 8) (hc : okI v i) (l : LYr M (cK v i) (cD v i) (cL v i)) {f : Nat} (hf : f ≤ mI v i) {g : Nat → Nat} (hg : ∀ k, k < f → gI M 54 k = nI (g k) ∧ g k < bI v i) : ∃ M1, q_CL 154 [.inr (.inr (some 49)), .inl (nI i), .inl (nI f)] M = some (none, M1) ∧ fr bsc M M1 ∧ BXf M1 (bx (cmI v i) (dI v i f) (jn (bI v i) g f)).1 (bx (cmI v i) (dI v i f) (jn (bI v i) g f)).2.1 := by
  have kd := hc.1.2.1
  have k4 := hc.1.1
  rw [C_X12_box]
  simp only [m_sel h, Option.bind_some, R_axes h r hi, z_rI]
  have key : ∀ n a, a + n = 3 → ∀ M, SH M → RI M v → LYr M (cK v i) (cD v i) (cL v i) → (∀ k, k < f → gI M 54 k = nI (g k) ∧ g k < bI v i) → (∀ x, x < a → gI M 55 x = nI 0 ∧ gI M 56 x = nI (cB (cK v i) ^ cL v i x - 1) ∧ gI M 57 x = nI 0) → ∃ M1, q_RL T_X12_box (9, [some (.inr (.inr (some 49))), some (.inl (nI i)), some (.inl (nI f)), some (.inl (nI (cD v i))), some (.inl (nI a)), none, none, none, none], [], M) = some (none, M1) ∧ fr bsc M M1 ∧ BXf M1 (bx (cmI v i) (dI v i f) (jn (bI v i) g f)).1 (bx (cmI v i) (dI v i f) (jn (bI v i) g f)).2.1 := by
    intro n
    induction n with
    | zero =>
      intro a ha M h r l hg q
      rw [show a = 3 by omega] at *
      rw [E_X12_box_9, if_pos (nI_le (Nat.le_refl _) (by omega))]
      have h1 : SH (stI M 49 10 (nI 0)) := h
      simp only [m_sI h, Option.bind_some, m_sI h1]
      have f2 : fr bsc M (stI (stI M 49 10 (nI 0)) 49 11 (nI 0)) := ((fr.rf bsc M).st (Or.inl (by omega))).st (Or.inl (by omega))
      have g2 : ∀ k, k < f → gI (stI (stI M 49 10 (nI 0)) 49 11 (nI 0)) 54 k = nI (g k) ∧ g k < bI v i := fun k hk => by
        refine ⟨?_, (hg k hk).2⟩
        rw [f2.2.2.2 54 k (by unfold bsc; omega)]; exact (hg k hk).1
      have l2 := l.fr f2 bsc_ly
      have b0 : BXf (stI (stI M 49 10 (nI 0)) 49 11 (nI 0)) (fun _ => 0) (fun x => cB (cK v i) ^ cL v i x) := fun x hx => by
        have := q x hx
        have rl := room_le hc hx
        rw [gI_oth (by omega), gI_oth (by omega), gI_oth (by omega), gI_oth (by omega)]
        refine ⟨this.1, ?_, ?_⟩
        · rw [this.2.1, Nat.zero_add]
        · show 0 + cB (cK v i) ^ cL v i x ≤ 2 ^ 21
          omega
      have bx0 : ∀ p, bx (cmI v i) 0 p = (fun _ => 0, fun x => cB (cK v i) ^ cL v i x, 0) := fun p => by
        show ((fun _ => 0, (cmO (cK v i) (cD v i) (cL v i)).2.2.2.2, 0) : Bx) = _
        rw [show (cmO (cK v i) (cD v i) (cL v i)).2.2.2.2 = fun x => cB (cK v i) ^ cL v i x from funext fun x => cmO_R _ _ _ _]
      have gd : Gd (cmI v i) (lsm (cL v i)) := gd_all hc.1
      by_cases h2 : cK v i = 2
      · have eB : bI v i = 2 ^ cD v i := if_pos h2
        have eD : ∀ f, dI v i f = cD v i * f := fun f => if_pos h2
        have eM : mI v i = cL v i 0 := if_pos h2
        have eC : cmI v i = cmO 2 (cD v i) (cL v i) := by unfold cmI; rw [h2]
        rw [eB] at g2
        rw [eC] at bx0
        rw [eB, eD, eC]
        obtain ⟨M1, p1, p2, p3⟩ := R_bxT hi hc h2 (by omega) f 0 (by omega) (stI (stI M 49 10 (nI 0)) 49 11 (nI 0)) none none none none 0 0 h r g2 (by rw [Nat.mul_zero, bx0]; exact b0) (by rw [Nat.mul_zero, bx0]) (Nat.two_pow_pos _) (by omega) (by rw [gI_oth (by omega), gI_self]) gI_self (fun a ha => by
          rw [Nat.mul_zero, bx0]
          show cB (cK v i) ^ cL v i a = _
          rw [hc.1.2.2.2.2.2.1 (Or.inr (Or.inl h2)) a ha, h2]; rfl)
        exact ⟨M1, p1, f2.tr p2, p3⟩
      · have eD : ∀ f, dI v i f = f := fun f => if_neg h2
        have eM : mI v i = lsm (cL v i) := if_neg h2
        by_cases h3 : cK v i = 3
        · have eB : bI v i = 3 := by unfold bI rB; rw [if_neg h2]; exact if_pos h3
          have eC : cmI v i = cmO 3 (cD v i) (cL v i) := by unfold cmI; rw [h3]
          rw [eB] at g2
          rw [eB, eD]
          obtain ⟨M1, p1, p2, p3⟩ := R_bxS hi hc h3 (by omega) gd (by rw [eC, cmO_3]) (fun _ _ => by rw [eC, cmO_3]) (fun _ _ _ => by rw [eC, cmO_3]) (fun _ _ _ => by rw [eC, cmO_3]) f 0 (by omega) (stI (stI M 49 10 (nI 0)) 49 11 (nI 0)) none none none none (fun _ => 0) h r l2 g2 (by rw [bx0]; exact b0) (by
            rw [bx0]
            refine ⟨by show 0 < 8; omega, fun a ha => ⟨?_, Nat.zero_le _, ?_⟩, fun _ _ _ => rfl⟩
            · rw [gI_oth (by omega), gI_oth (by omega)]; exact (q a ha).2.2
            · show 0 % 2 = 0 / 2 ^ a % 2
              rw [Nat.zero_div])
          exact ⟨M1, p1, f2.tr p2, p3⟩
        · have eB : bI v i = 2 := by unfold bI rB; rw [if_neg h2]; exact if_neg h3
          rw [eB] at g2
          rw [eB, eD]
          obtain ⟨M1, p1, p2, p3⟩ := R_bxP hi hc h2 h3 (by omega) gd (by unfold cmI; rw [cmO_p h2 h3]) (fun _ _ => by unfold cmI; rw [cmO_p h2 h3]) (fun _ _ _ => by unfold cmI; rw [cmO_p h2 h3]) f 0 (by omega) (stI (stI M 49 10 (nI 0)) 49 11 (nI 0)) none none none none h r l2 g2 (by rw [bx0]; exact b0)
          exact ⟨M1, p1, f2.tr p2, p3⟩
    | succ n ih =>
      intro a ha M h r l hg q
      have h3 : a < 3 := by omega
      have rl := room_le hc h3
      have hA : SH (stI M 55 a (nI 0)) := h
      have rA : RI (stI M 55 a (nI 0)) v := r
      rw [E_X12_box_9, if_neg (nI_ge (by omega) (by omega))]
      simp only [m_lo h, Option.bind_some, m_b3 h (Or.inl rfl) h3, m_hi hA, m_sel hA, R_can hA rA hi h3 hc, z_rI]
      rw [pk_sub rl.1, m_b3 hA (Or.inr (Or.inl rfl)) h3]
      have hB : SH (stI (stI M 55 a (nI 0)) 56 a (nI (cB (cK v i) ^ cL v i a - 1))) := h
      simp only [Option.bind_some, m_su hB, m_b3 hB (Or.inr (Or.inr rfl)) h3, nI_1]
      have f3 : fr bsc M (stI (stI (stI M 55 a (nI 0)) 56 a (nI (cB (cK v i) ^ cL v i a - 1))) 57 a (nI 0)) := (((fr.rf bsc M).st (Or.inr (by omega))).st (Or.inr (by omega))).st (Or.inr (by omega))
      obtain ⟨M1, p1, p2, p3⟩ := ih (a + 1) (by omega) (stI (stI (stI M 55 a (nI 0)) 56 a (nI (cB (cK v i) ^ cL v i a - 1))) 57 a (nI 0)) hB r (l.fr f3 bsc_ly) (fun k hk => by
        refine ⟨?_, (hg k hk).2⟩
        rw [f3.2.2.2 54 k (by unfold bsc; omega)]; exact (hg k hk).1) (fun x hx => by
        by_cases e : x = a
        · rw [e, gI_self, gI_oth (by omega), gI_oth (by omega), gI_self, gI_oth (by omega), gI_self]
          exact ⟨rfl, rfl, rfl⟩
        · rw [gI_oth (by omega), gI_oth (by omega), gI_oth (by omega), gI_oth (by omega), gI_oth (by omega), gI_oth (by omega), gI_oth (by omega), gI_oth (by omega), gI_oth (by omega)]
          exact q x (by omega))
      exact ⟨M1, p1, f3.tr p2, p3⟩
  exact key 3 0 (by omega) M h r l hg (fun x hx => by omega)
