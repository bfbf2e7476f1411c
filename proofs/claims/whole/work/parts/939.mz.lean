/-! ===== THE REFERENCE: sow ===== -/
theorem x32 (x : Int32) : x = nI x.toBitVec.toNat := by
  apply Int32.toBitVec_inj.mp
  show x.toBitVec = BitVec.ofNat 32 x.toBitVec.toNat
  simp
/-- the next draw -/
def dr (g : Int32) : Int32 := nI 1103515245 * g + nI 12345
def dv (g : Int32) (c : Nat) : Nat := g.toBitVec.toNat / 256 % c
theorem dv_at (g : Int32) {c : Nat} (h : 0 < c ∧ c < 2 ^ 31) : ((Int32.toUInt32 g >>> (Int32.toUInt32 (nI 8) &&& Int32.toUInt32 31)).toInt32) - ((Int32.toUInt32 g >>> (Int32.toUInt32 (nI 8) &&& Int32.toUInt32 31)).toInt32) / nI c * nI c = nI (dv g c) := by
  have hb : g.toBitVec.toNat < 2 ^ 32 := g.toBitVec.isLt
  have e : (Int32.toUInt32 g >>> (Int32.toUInt32 (nI 8) &&& Int32.toUInt32 31)).toInt32 = nI (g.toBitVec.toNat / 2 ^ 8) := by
    have := pk_ushrN hb (nI 8) 8 (by decide +kernel)
    rw [← x32 g] at this
    exact this
  rw [e, pk_rem (by omega) h.1 h.2]
  rfl
/-- where and how a sown point comes -/
def dq (v : Nat → Nat) (i : Nat) (g : Int32) (a : Nat) : Nat := if a = 0 then dv (dr g) (cB (cK v i) ^ cL v i 0) else if a = 1 then dv (dr (dr g)) (cB (cK v i) ^ cL v i 1) else if cD v i = 3 then dv (dr (dr (dr g))) (cB (cK v i) ^ cL v i 2) else 0
def dg (v : Nat → Nat) (i : Nat) (g : Int32) : Int32 := if cD v i = 3 then dr (dr (dr (dr g))) else dr (dr (dr g))
theorem dq_b {v : Nat → Nat} {i : Nat} (hc : okI v i) (g : Int32) : ∀ a, a < 3 → dq v i g a < cB (cK v i) ^ cL v i a := by
  intro a ha
  have r := fun a ha => (room_le hc (a := a) ha).1
  unfold dq
  rcases (show a = 0 ∨ a = 1 ∨ a = 2 by omega) with rfl | rfl | rfl
  · rw [if_pos rfl]; exact Nat.mod_lt _ (r 0 ha)
  · rw [if_neg (by omega), if_pos rfl]; exact Nat.mod_lt _ (r 1 ha)
  · rw [if_neg (by omega), if_neg (by omega)]
    split
    · exact Nat.mod_lt _ (r 2 ha)
    · exact r 2 ha
/-- the least free name -/
def frN (v : Nat → Nat) (o nm : Nat) : Prop := (∀ y, y < v (o + 2) → v (o + 4 + 6 * y) ≠ nm) ∧ ∀ n, n < nm → ∃ y, y < v (o + 2) ∧ v (o + 4 + 6 * y) = n
theorem pig : ∀ (k m : Nat) (f : Nat → Nat), (∀ n, n < k → ∃ p, p < m ∧ f p = n) → k ≤ m
  | 0, _, _, _ => Nat.zero_le _
  | k + 1, m, f, h => by
    obtain ⟨p, hp, ep⟩ := h k (by omega)
    obtain ⟨m, rfl⟩ : ∃ m', m = m' + 1 := ⟨m - 1, by omega⟩
    have := pig k m (fun x => if x = p then f m else f x) fun n hn => by
      obtain ⟨q, hq, eq⟩ := h n (by omega)
      have ne : q ≠ p := fun z => by rw [z, ep] at eq; omega
      by_cases e : q = m
      · refine ⟨p, by omega, ?_⟩
        simp only [if_pos rfl]
        rw [← e]; exact eq
      · refine ⟨q, by omega, ?_⟩
        simp only [if_neg ne]
        exact eq
    omega
theorem frN_le {v : Nat → Nat} {o nm : Nat} (h : ∀ n, n < nm → ∃ y, y < v (o + 2) ∧ v (o + 4 + 6 * y) = n) : nm ≤ v (o + 2) := pig nm (v (o + 2)) (fun y => v (o + 4 + 6 * y)) h
def sowR (o i : Nat) : Nat → Int32 → (Nat → Nat) → (Nat → Nat) → Prop
  | 0, _, v, u => u = v
  | n + 1, g, v, u => ∃ nm p e k, frN v o nm ∧ cmAt v i o nm (dq v i g) (dv (dg v i g) 101) p e k ∧ sowR o i n (dg v i g) (cmV v o p e (cP nm (dq v i g) (dv (dg v i g) 101) (npI v i (dq v i g)))) u
theorem R_sow168 {v : Nat → Nat} {i o : Nat} (s : SW v i o) (hi : i < 8) (hc : okI v i) (ei : v (o + 1) = i) (ho : 1100 ≤ o ∧ o + 2110 ≤ 60180) (hm : v (o + 2) < 300) {w : Nat → Int32} {M : q_M} (h : SH M) (r : RI M v) (wi : WI M w) (eo : gI M 49 13 = nI o) {x1 x2 x3 x5 x6 g : Int32} {q : Nat → Nat} (hq : ∀ a, a < 3 → q a < cB (cK v i) ^ cL v i a) : ∀ m n, n + m = v (o + 2) + 1 → (∀ y, y < n → ∃ p, p < v (o + 2) ∧ v (o + 4 + 6 * p) = y) → ∃ nm p e k M1, frN v o nm ∧ cmAt v i o nm q (dv g 101) p e k ∧ q_RL T_X12_sow (168, [some (.inr (.inr (some 49))), some (.inl x1), some (.inl x2), some (.inl x3), some (.inl g), some (.inl x5), some (.inl x6), some (.inl (nI (q 0))), some (.inl (nI (q 1))), some (.inl (nI (q 2))), some (.inl (nI n))], [], M) = q_RL T_X12_sow (57, [some (.inr (.inr (some 49))), some (.inl x1), some (.inl x2), some (.inl x3), some (.inl g), some (.inl x5), some (.inl (x6 + 1)), some (.inl (nI (q 0))), some (.inl (nI (q 1))), some (.inl (nI (q 2))), some (.inl (nI nm))], [], M1) ∧ FL f50 M M1 ∧ RI M1 (cmV v o p e (cP nm q (dv g 101) (npI v i q))) ∧ WI M1 w ∧ SW (cmV v o p e (cP nm q (dv g 101) (npI v i q))) i o ∧ cmV v o p e (cP nm q (dv g 101) (npI v i q)) (o + 2) = v (o + 2) + 1 ∧ ∀ x, x < o + 2 ∨ o + 2110 ≤ x → cmV v o p e (cP nm q (dv g 101) (npI v i q)) x = v x := by
  have s' := s
  obtain ⟨s1, s2, s3, s4, s5, s6⟩ := s
  have hw : dv g 101 < 101 := Nat.mod_lt _ (by omega)
  intro m
  induction m with
  | zero =>
    intro n hn ht
    have := frN_le (o := o) (v := v) (nm := n) ht
    omega
  | succ m ih =>
    intro n hn ht
    rcases R_named h r ho eo s1 (fun p hp => by have := (s5 p hp).1; omega) (nI n) with ⟨hf, en⟩ | ⟨p, hp, ex, _, en⟩
    · have fr : ∀ y, y < v (o + 2) → v (o + 4 + 6 * y) ≠ n := fun y hy z => hf y hy (by rw [z])
      obtain ⟨p, e, k, M1, b1, b2, b3, b4, b5, b6, b7, b8, b9, b10, b11⟩ := R_comes (o := o) (i := i) (nm := n) (wt := dv g 101) (q := q) ho hm (by omega) (by omega) (fun _ => s3) (fun k hk => (s4 k hk).2) ei hi hc hq (by omega) (by omega) h r wi eo
      have sw3 := SW_cm hi hc s' (by omega) hm b1 b2 b3 b4 (fun z => (b5 z).1) hq (by omega) (show dv g 101 ≤ 1000 by omega) fr
      have av := cmV_a (v := v) (o := o) (p := p) (g := e) (c := cP n q (dv g 101) (npI v i q)) (by omega) hm (by omega) b1 sw3.2
      refine ⟨n, p, e, k, M1, ⟨fr, ht⟩, ⟨b1, b2, b3, b4, b5, b6, b7⟩, ?_, b9, b10, b11, sw3.1, av.1, av.2.2.1⟩
      rw [E_X12_sow_168]
      simp only [m_sel h, Option.bind_some, en, z_rI]
      rw [if_pos trivial, if_neg (show ¬ nI 101 = 0 by decide +kernel)]
      simp only [m_sel h, Option.bind_some, dv_at g (show 0 < 101 ∧ 101 < 2 ^ 31 by omega), b8, z_rI]
    · have en' := (nI_eq (by omega) (by have := (s5 p hp).1; omega)).mp ex
      obtain ⟨nm, p2, e, k, M1, c1, c2, c3, c4⟩ := ih (n + 1) (by omega) (fun y hy => by
        by_cases z : y = n
        · exact ⟨p, hp, by rw [z]; exact en'.symm⟩
        · exact ht y (by omega))
      refine ⟨nm, p2, e, k, M1, c1, c2, ?_, c4⟩
      rw [E_X12_sow_168]
      simp only [m_sel h, Option.bind_some, en, z_rI]
      rw [if_neg (nI_nm1 (by omega)), nI_1]
      exact c3
theorem R_sow57 {o j N : Nat} (hj : j < 4) (eo' : o = oS j) (hN : N ≤ 40) {w : Nat → Int32} {i : Nat} (hi : i < 8) {x1 x3 : Int32} : ∀ m k, k + m = N → ∀ (v : Nat → Nat), SV v → v o = 1 → v (o + 1) = i → v (o + 2) + m ≤ 300 → ∀ {M : q_M}, SH M → RI M v → WI M w → gI M 49 13 = nI o → ∀ (g : Int32) d7 d8 d9 d10, ∃ u M1, sowR o i m g v u ∧ q_RL T_X12_sow (57, [some (.inr (.inr (some 49))), some (.inl x1), some (.inl (nI N)), some (.inl x3), some (.inl g), some (.inl (nI i)), some (.inl (nI k)), d7, d8, d9, d10], [], M) = some (some (.inl (nI (v (o + 2) + m))), M1) ∧ FL f50 M M1 ∧ RI M1 u ∧ WI M1 w ∧ SV u := by
  have ob := oS_b hj
  have ho : 1100 ≤ o ∧ o + 2110 ≤ 60180 := by omega
  intro m
  induction m with
  | zero =>
    intro k hk v sv e0 e1 hm M h r wi eo g d7 d8 d9 d10
    refine ⟨v, M, rfl, ?_, FL.rf _ M, r, wi, sv⟩
    rw [E_X12_sow_57, if_pos (nI_le (by omega) (by omega))]
    simp only [m_sel h, Option.bind_some, (R_fld h r ho eo).1, z_rI, Nat.add_zero]
  | succ m ih =>
    intro k hk v sv e0 e1 hm M h r wi eo g d7 d8 d9 d10
    obtain ⟨_, hc⟩ := sv.i8 hj (by rw [← eo']; exact e0)
    have sw := sv.sw hj (by rw [← eo']; exact e0)
    rw [← eo', e1] at hc sw
    have q0 := room_le hc (show 0 < 3 by omega)
    have q1 := room_le hc (show 1 < 3 by omega)
    have q2 := room_le hc (show 2 < 3 by omega)
    have hd : cD v i = 2 ∨ cD v i = 3 := hc.1.2.1
    obtain ⟨nm, p, e, k', M1, c1, c2, c3, c4, c5, c6, c7, c8, c9⟩ := R_sow168 sw hi hc e1 ho (by omega) h r wi eo (x1 := x1) (x2 := nI N) (x3 := x3) (x5 := nI i) (x6 := nI k) (g := dg v i g) (q := dq v i g) (dq_b hc g) (v (o + 2) + 1) 0 (by omega) (fun y hy => by omega)
    have sv1 : SV (cmV v o p e (cP nm (dq v i g) (dv (dg v i g) 101) (npI v i (dq v i g)))) := by
      rw [eo'] at c9 c7 ⊢
      exact SV_sl hj sv (by rw [← eo']; exact e0) c9 (by rw [← eo', e1] ; rw [eo']; exact c7)
    obtain ⟨u, M2, d1, d2, d3, d4, d5, d6⟩ := ih (k + 1) (by omega) _ sv1 ((c9 o (by omega)).trans e0) ((c9 (o + 1) (by omega)).trans e1) (by omega) (c4.sh h) c5 c6 ((c4.2.2.2.1 49 13 (by unfold scr; omega)).trans eo) (dg v i g) (some (.inl (nI (dq v i g 0)))) (some (.inl (nI (dq v i g 1)))) (some (.inl (nI (dq v i g 2)))) (some (.inl (nI nm)))
    refine ⟨u, M2, ⟨nm, p, e, k', c1, c2, d1⟩, ?_, c4.tr d3, d4, d5, d6⟩
    rw [c8, show v (o + 2) + 1 + m = v (o + 2) + (m + 1) by omega] at d2
    rw [E_X12_sow_57, if_neg (nI_ge (by omega) (by omega))]
    simp only [m_sel h, Option.bind_some, R_can h r hi (show 0 < 3 by omega) hc, R_can h r hi (show 1 < 3 by omega) hc, R_can h r hi (show 2 < 3 by omega) hc, R_axes h r hi, z_rI]
    rw [if_neg (nI_ne0 q0.1 (by omega)), if_neg (nI_ne0 q1.1 (by omega))]
    rw [nI_1] at c3
    rw [← d2, ← c3]
    rcases hd with hd | hd
    · rw [if_neg (fun z => by have := (nI_eq (by omega) (by omega)).mp z; omega)]
      have eg : dg v i g = dr (dr (dr g)) := by unfold dg; rw [if_neg (by omega)]
      have e0 : dq v i g 0 = dv (dr g) (cB (cK v i) ^ cL v i 0) := rfl
      have e1 : dq v i g 1 = dv (dr (dr g)) (cB (cK v i) ^ cL v i 1) := rfl
      have e2 : dq v i g 2 = 0 := by unfold dq; rw [if_neg (by omega), if_neg (by omega), if_neg (by omega)]
      rw [eg, e0, e1, e2, ← dv_at _ ⟨q0.1, by omega⟩, ← dv_at _ ⟨q1.1, by omega⟩]
      rfl
    · rw [if_pos (by rw [hd]), if_neg (nI_ne0 q2.1 (by omega))]
      have eg : dg v i g = dr (dr (dr (dr g))) := by unfold dg; rw [if_pos hd]
      have e0 : dq v i g 0 = dv (dr g) (cB (cK v i) ^ cL v i 0) := rfl
      have e1 : dq v i g 1 = dv (dr (dr g)) (cB (cK v i) ^ cL v i 1) := rfl
      have e2 : dq v i g 2 = dv (dr (dr (dr g))) (cB (cK v i) ^ cL v i 2) := by unfold dq; rw [if_neg (by omega), if_neg (by omega), if_pos hd]
      rw [eg, e0, e1, e2, ← dv_at _ ⟨q0.1, by omega⟩, ← dv_at _ ⟨q1.1, by omega⟩, ← dv_at _ ⟨q2.1, by omega⟩]
      rfl
theorem R_sow {v : Nat → Nat} (s : SV v) {w : Nat → Int32} {M : q_M} (h : SH M) (r : RI M v) (wi : WI M w) (x1 x2 x3 : Int32) : (¬ (∃ j, j < 4 ∧ x1 = nI j ∧ v (oS j) = 1) ∧ ∃ M1, q_CL 195 [.inr (.inr (some 49)), .inl x1, .inl x2, .inl x3] M = some (some (.inl (-1)), M1) ∧ FO (fun _ => False) M M1) ∨ ∃ j, j < 4 ∧ x1 = nI j ∧ v (oS j) = 1 ∧ ((¬ (∃ n, 1 ≤ n ∧ n ≤ 40 ∧ x2 = nI n) ∧ ∃ M1, q_CL 195 [.inr (.inr (some 49)), .inl x1, .inl x2, .inl x3] M = some (some (.inl (-2)), M1) ∧ FO (fun _ => False) M M1) ∨ ∃ n, 1 ≤ n ∧ n ≤ 40 ∧ x2 = nI n ∧ ((300 < v (oS j + 2) + n ∧ ∃ M1, q_CL 195 [.inr (.inr (some 49)), .inl x1, .inl x2, .inl x3] M = some (some (.inl (-6)), M1) ∧ FO (fun _ => False) M M1) ∨ (v (oS j + 2) + n ≤ 300 ∧ ∃ u M1, sowR (oS j) (v (oS j + 1)) n x3 (kpU v j) u ∧ q_CL 195 [.inr (.inr (some 49)), .inl x1, .inl x2, .inl x3] M = some (some (.inl (nI (v (oS j + 2) + n))), M1) ∧ FO f50 M M1 ∧ RI M1 u ∧ WI M1 w ∧ SV u))) := by
  rw [C_X12_sow]
  simp only [m_sel h, Option.bind_some]
  rcases R_opens h r x1 with ⟨hx, M1, e, f⟩ | ⟨j, hj, rfl, eo, e⟩
  · left
    refine ⟨hx, M1, ?_, f⟩
    rw [e]; rfl
  right
  refine ⟨j, hj, rfl, eo, ?_⟩
  have ob := oS_b hj
  rw [e]
  simp only [z_rI, Option.bind_some]
  rw [if_neg (show ¬ nI 1 = 0 by decide +kernel)]
  have hA : SH (stI M 49 13 (nI (oS j))) := h
  have rA : RI (stI M 49 13 (nI (oS j))) v := r
  have wA : WI (stI M 49 13 (nI (oS j))) w := wi
  have fA : ∀ A, FO A M (stI M 49 13 (nI (oS j))) := fun A => (FO.rf A M).sO
  have eA : gI (stI M 49 13 (nI (oS j))) 49 13 = nI (oS j) := gI_self
  generalize stI M 49 13 (nI (oS j)) = A at *
  obtain ⟨i8, hc⟩ := s.i8 hj eo
  have sw := s.sw hj eo
  by_cases n0 : x2 < nI 1
  · left
    refine ⟨?_, A, if_pos n0, fA _⟩
    rintro ⟨n, a1, a2, rfl⟩
    exact nI_nlt a1 (by omega) n0
  rw [if_neg n0]
  by_cases n1 : x2 ≤ nI 40
  rotate_left
  · left
    refine ⟨?_, A, if_neg n1, fA _⟩
    rintro ⟨n, a1, a2, rfl⟩
    exact n1 (nI_le a2 (by omega))
  rw [if_pos n1]
  right
  obtain ⟨n, b1, b2, rfl⟩ : ∃ n, 1 ≤ n ∧ n ≤ 40 ∧ x2 = nI n := by
    have c1 : ¬ x2.toInt < (nI 1).toInt := fun z => n0 (Int32.lt_iff_toInt_lt.mpr z)
    have c2 : x2.toInt ≤ (nI 40).toInt := Int32.le_iff_toInt_le.mp n1
    rw [nI_toInt (by omega)] at c1 c2
    rcases pk_ix x2 (show 41 < 2 ^ 31 by omega) with q | q | ⟨n, q, rfl⟩
    · exfalso
      have : x2.toInt < (nI 0).toInt := by rw [nI_0]; exact Int32.lt_iff_toInt_lt.mp q
      rw [nI_toInt (by omega)] at this
      omega
    · exfalso
      have : (nI 41).toInt ≤ x2.toInt := Int32.le_iff_toInt_le.mp q
      rw [nI_toInt (by omega)] at this
      omega
    · rw [nI_toInt (by omega)] at c1
      exact ⟨n, by omega, by omega, rfl⟩
  refine ⟨n, b1, b2, rfl, ?_⟩
  simp only [m_sel hA, Option.bind_some, (R_fld hA rA (show 1100 ≤ oS j ∧ oS j + 2110 ≤ 60180 by omega) eA).1, z_rI, nI_add]
  have m3 := sw.1
  by_cases m1 : v (oS j + 2) + n ≤ 300
  rotate_left
  · left
    refine ⟨by omega, A, ?_, fA _⟩
    rw [if_neg (nI_ge (by omega) (by omega))]
  right
  refine ⟨m1, ?_⟩
  rw [if_pos (nI_le m1 (by omega))]
  obtain ⟨M1, p1, p2, p3, p4⟩ := R_kp1 hj (show ¬ nI 1 = 0 by decide +kernel) hA rA wA
  have h1 := p2.sh hA
  have e1 : gI M1 49 13 = nI (oS j) := (p2.2.2.2.1 49 13 (by unfold scr; omega)).trans eA
  obtain ⟨u1, u2, u3, u4⟩ := SV_kpU hj s eo
  obtain ⟨_, ku, _⟩ := kpU_a (v := v) hj
  have k2 := ku 2 (by omega)
  obtain ⟨u, M2, d1, d2, d3, d4, d5, d6⟩ := R_sow57 (o := oS j) hj rfl b2 i8 (x1 := nI j) (x3 := x3) n 0 (by omega) (kpU v j) u1 u4 u3 (by omega) h1 p3 p4 e1 x3 none none none none
  refine ⟨u, M2, d1, ?_, ((fA f50).tr (FO.of p2)).tr (FO.of d3), d4, d5, d6⟩
  have e3 := (R_fld h1 p3 (show 1100 ≤ oS j ∧ oS j + 2110 ≤ 60180 by omega) e1).2.2
  rw [u3] at e3
  rw [k2] at d2
  simp only [m_sel hA, Option.bind_some, p1, z_rV, m_sel h1, e3, z_rI, d2]
