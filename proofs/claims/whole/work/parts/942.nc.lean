/-! ===== THE REFERENCE: nearest, within ===== -/
/-- the one of rank r -/
def elF (K : Nat → Nat → Bool) (m : Nat) (E : Nat → Bool) (r : Nat) : Nat → Nat
  | 0 => 0
  | i + 1 => if (E i && decide (rk K m E i = r)) = true then i else elF K m E r i
def elt (K : Nat → Nat → Bool) (m : Nat) (E : Nat → Bool) (r : Nat) : Nat := elF K m E r m
theorem elF_at {K : Nat → Nat → Bool} {m : Nat} (o : Ord K m) {E : Nat → Bool} {r i : Nat} (hi : i < m) (ei : E i = true) (er : rk K m E i = r) : ∀ n, i < n → n ≤ m → elF K m E r n = i
  | 0, h, _ => by omega
  | n + 1, h, hm => by
    unfold elF
    by_cases q : (E n && decide (rk K m E n = r)) = true
    · rw [if_pos q]
      simp only [Bool.and_eq_true, decide_eq_true_eq] at q
      exact rk_inj o (by omega) hi q.1 ei (by omega)
    · rw [if_neg q]
      refine elF_at o hi ei er n ?_ (by omega)
      by_cases z : i = n
      · subst z
        exfalso
        apply q
        rw [ei, er]
        simp
      · omega
theorem elt_at {K : Nat → Nat → Bool} {m : Nat} (o : Ord K m) {E : Nat → Bool} {r i : Nat} (hi : i < m) (ei : E i = true) (er : rk K m E i = r) : elt K m E r = i := elF_at o hi ei er m hi (Nat.le_refl m)
theorem elt_ok {K : Nat → Nat → Bool} {m : Nat} (o : Ord K m) {E : Nat → Bool} {r : Nat} (h : r < cnt E m) : elt K m E r < m ∧ E (elt K m E r) = true ∧ rk K m E (elt K m E r) = r := by
  obtain ⟨i, i1, i2, i3⟩ := rk_ex o h
  rw [elt_at o i1 i2 i3]
  exact ⟨i1, i2, i3⟩
theorem fdN_w {o : Nat} {e d v : Nat → Nat} (h0 : v 457 = 0) (h8 : v 458 = 0) (ho : 1100 ≤ o) : ∀ n, n ≤ 300 → (∀ r, r < n → v (o + 4 + 6 * e r + 4) ≤ 1000) → fdN o e d v n 458 ≤ 1000 * n
  | 0, _, _ => by show v 458 ≤ _; omega
  | n + 1, h, hw => by
    have ih := fdN_w (d := d) h0 h8 ho n (by omega) fun r hr => hw r (by omega)
    have a := (fdN_a (o := o) (e := e) (d := d) h0 n (by omega)).2 (o + 4 + 6 * e n + 4) (by omega)
    have := hw n (by omega)
    show fdS (fdN o e d v n) o (e n) (d n) 458 ≤ _
    rw [(fdS_7 _ _ _ _).2.1, a]
    omega
/-- what nearest finds: N of them, t pages read -/
def nrV (v : Nat → Nat) (o : Nat) (g : Nat → Nat) (wy t N : Nat) : Nat → Nat := fdN o (elt (kL v o g wy) (v (o + 2)) (fun _ => true)) (fun r => dsP v o g wy (elt (kL v o g wy) (v (o + 2)) (fun _ => true) r)) (fd0 v t) N
theorem nrV_a {v : Nat → Nat} {i o : Nat} (s : SW v i o) (ho : 1100 ≤ o) (g : Nat → Nat) (wy t : Nat) {N : Nat} (hN : N ≤ v (o + 2)) : nrV v o g wy t N 457 = N ∧ nrV v o g wy t N 459 = t ∧ (∀ x, x < 457 ∨ 1100 ≤ x → nrV v o g wy t N x = v x) ∧ nrV v o g wy t N 458 ≤ 1000 * N := by
  have s1 := s.1
  have oR : Ord (kL v o g wy) (v (o + 2)) := kL_o fun p q hp hq => (s.2.2.2.2.2 p q hp hq).1
  obtain ⟨z7, z8, z9⟩ := fd0_7 v t
  obtain ⟨a1, a2⟩ := fdN_a (o := o) (e := elt (kL v o g wy) (v (o + 2)) (fun _ => true)) (d := fun r => dsP v o g wy (elt (kL v o g wy) (v (o + 2)) (fun _ => true) r)) z7 N (by omega)
  refine ⟨a1, (a2 459 (by omega)).trans z9, fun x hx => (a2 x (by omega)).trans (fd0_x (by omega)), fdN_w z7 z8 ho N (by omega) fun r hr => ?_⟩
  rw [fd0_x (by omega)]
  exact (s.2.2.2.2.1 _ (elt_ok oR (E := fun _ => true) (by rw [cnt_all]; omega)).1).2.1
/-- one more is taken: the common step of nearest and within -/
theorem R_nrS {v : Nat → Nat} {i o : Nat} (s : SW v i o) (hi : i < 8) (hc : okI v i) (ho : 1100 ≤ o ∧ o + 2110 ≤ 60180) {g : Nat → Nat} {wy t k : Nat} (hw : wy < 3) {rd : Nat → Bool} {w : Nat → Int32} {M : q_M} (h : SH M) (r : RI M (nrV v o g wy t k)) (wi : WI M w) (eo : gI M 49 13 = nI o) (hh : HI M g) (t1 : TI M 60 (tkK v o g wy (fun _ => true) k)) {b : Nat} (hb : b < v (o + 2)) (eb : rk (kL v o g wy) (v (o + 2)) (fun _ => true) b = k) : ∃ M1 M2 b', SH (stI M 60 b (nI 1 &&& 1)) ∧ q_CL 206 [.inr (.inr (some 49)), .inl (nI b), .inl (nI wy)] (stI M 60 b (nI 1 &&& 1)) = some (some (.inr (.inl (lN (dsP v o g wy b)))), stI M 60 b (nI 1 &&& 1)) ∧ q_CL 201 [.inr (.inr (some 49)), .inl (nI b), .inr (.inl (lN (dsP v o g wy b)))] (stI M 60 b (nI 1 &&& 1)) = some (none, M1) ∧ SH M1 ∧ q_CL 209 [.inr (.inr (some 49)), .inl (nI wy), .inl (nI 0)] M1 = some (some (.inl (oI b')), M2) ∧ M2 = M1 ∧ F2 f50 M M1 ∧ RI M1 (nrV v o g wy t (k + 1)) ∧ WI M1 w ∧ gI M1 49 13 = nI o ∧ HI M1 g ∧ TI M1 60 (tkK v o g wy (fun _ => true) (k + 1)) ∧ Fst (kL v o g wy) (fun i => !tkK v o g wy (fun _ => true) (k + 1) i) (v (o + 2)) b' := by
  have s1 := s.1
  have oR : Ord (kL v o g wy) (v (o + 2)) := kL_o fun p q hp hq => (s.2.2.2.2.2 p q hp hq).1
  have hk : k < v (o + 2) := by
    have := rk_cnt oR (E := fun _ => true) hb rfl
    rw [cnt_all] at this
    omega
  have el : elt (kL v o g wy) (v (o + 2)) (fun _ => true) k = b := elt_at oR hb rfl eb
  obtain ⟨n7, n9, nx, n8⟩ := nrV_a s ho.1 g wy t (N := k) (by omega)
  have hx : ∀ x, x < 49 ∨ 1100 ≤ x → nrV v o g wy t k x = v x := fun x hx => nx x (by omega)
  obtain ⟨d1, d2⟩ := ds_hi ho.1 hx g wy
  have swu := SW_hi hi hc ho.1 hx s
  have hcu := okI_cg (fun x hx' => hx x (Or.inl hx')) hi hc
  have hA : SH (stI M 60 b (nI (bN true))) := h
  have rA : RI (stI M 60 b (nI (bN true))) (nrV v o g wy t k) := r
  have eA : gI (stI M 60 b (nI (bN true))) 49 13 = nI o := (gI_oth (by omega)).trans eo
  have hhA : HI (stI M 60 b (nI (bN true))) g := fun a ha => ⟨(gI_oth (by omega)).trans (hh a ha).1, (hh a ha).2⟩
  have t1A : TI (stI M 60 b (nI (bN true))) 60 (tkK v o g wy (fun _ => true) (k + 1)) := by
    have := TI_st (k := b) (by omega) t1 true
    rw [show (fun i => if i = b then true else tkK v o g wy (fun _ => true) k i) = tkK v o g wy (fun _ => true) (k + 1) from funext fun i => (tkK_s oR hb rfl eb i).symm] at this
    exact this
  have wA : WI (stI M 60 b (nI (bN true))) w := wi
  have far := R_far hA rA ho eA hhA hw (show b ≤ 300 by omega) (fun a ha => by rw [hx _ (by omega)]; exact s.pt hc hb ha)
  rw [d1] at far
  have db := dsP_b (v := v) (o := o) (g := g) (wy := wy) (p := b) (fun a ha => s.pt hc hb ha) (fun a ha => (hh a ha).2)
  have hN3 : nrV v o g wy t k 457 < 300 := by rw [n7]; omega
  have hW3 : nrV v o g wy t k 458 + nrV v o g wy t k (o + 4 + 6 * b + 4) < 2 ^ 62 := by
    rw [hx (o + 4 + 6 * b + 4) (by omega)]
    have := (s.2.2.2.2.1 b hb).2.1
    omega
  obtain ⟨M1, f1, f2, f3, f4⟩ := R_finds (v := nrV v o g wy t k) (o := o) (p := b) (d := dsP v o g wy b) ho (by omega) (by omega) hN3 hW3 hA rA wA eA
  have h1 := f2.sh hA
  have e1 : gI M1 49 13 = nI o := (f2.2.2.2.1 49 13 (by unfold scr; omega)).trans eA
  have hh1 : HI M1 g := fun a ha => ⟨(f2.2.2.2.1 59 a (by unfold scr; omega)).trans (hhA a ha).1, (hh a ha).2⟩
  have t11 : TI M1 60 (tkK v o g wy (fun _ => true) (k + 1)) := fun a ha => (f2.2.2.2.1 60 a (by unfold scr; omega)).trans (t1A a ha)
  have f3' : RI M1 (nrV v o g wy t (k + 1)) := by
    have : nrV v o g wy t (k + 1) = fdS (nrV v o g wy t k) o b (dsP v o g wy b) := by
      show fdS _ o (elt (kL v o g wy) (v (o + 2)) (fun _ => true) k) (dsP v o g wy (elt (kL v o g wy) (v (o + 2)) (fun _ => true) k)) = _
      rw [el]
      rfl
    rw [this]; exact f3
  obtain ⟨_, _, nx1, _⟩ := nrV_a s ho.1 g wy t (N := k + 1) (by omega)
  have hx1 : ∀ x, x < 49 ∨ 1100 ≤ x → nrV v o g wy t (k + 1) x = v x := fun x hx => nx1 x (by omega)
  obtain ⟨b', g1, g2⟩ := R_nO (SW_hi hi hc ho.1 hx1 s) (okI_cg (fun x hx' => hx1 x (Or.inl hx')) hi hc) h1 f3' ho e1 hh1 hw (rd := rd) t11 false (Or.inl rfl)
  rw [(ds_hi ho.1 hx1 g wy).2, hx1 (o + 2) (by omega)] at g1
  refine ⟨M1, M1, b', hA, far, f1, h1, g2, rfl, ((F2.rf f50 M).sI (show sc2 60 b from Or.inr (Or.inr (Or.inr (Or.inl rfl))))).tr (F2.fl f2), f3', f4, e1, hh1, t11, ?_⟩
  have : (fun i => !tkK v o g wy (fun _ => true) (k + 1) i) = eL (nrV v o g wy t (k + 1)) o (tkK v o g wy (fun _ => true) (k + 1)) rd false := by
    funext i
    unfold eL
    simp
  rw [this]; exact g1
theorem R_nr64 {v : Nat → Nat} {i o : Nat} (s : SW v i o) (hi : i < 8) (hc : okI v i) (ho : 1100 ≤ o ∧ o + 2110 ≤ 60180) {g : Nat → Nat} {wy t n : Nat} (hw : wy < 3) (hn : n ≤ 20) {w : Nat → Int32} {x1 x2 x3 x4 x7 : Int32} : ∀ m k, k + m = n → k ≤ v (o + 2) → ∀ {M : q_M}, SH M → RI M (nrV v o g wy t k) → WI M w → gI M 49 13 = nI o → HI M g → TI M 60 (tkK v o g wy (fun _ => true) k) → ∀ b, Fst (kL v o g wy) (fun i => !tkK v o g wy (fun _ => true) k i) (v (o + 2)) b → ∃ M1, q_RL T_X12_nearest (64, [some (.inr (.inr (some 49))), some (.inl x1), some (.inl x2), some (.inl x3), some (.inl x4), some (.inl (nI wy)), some (.inl (nI n)), some (.inl x7), some (.inl (oI b))], [], M) = some (some (.inl (nI (min (v (o + 2)) n))), M1) ∧ F2 f50 M M1 ∧ RI M1 (nrV v o g wy t (min (v (o + 2)) n)) ∧ WI M1 w := by
  have s1 := s.1
  have oR : Ord (kL v o g wy) (v (o + 2)) := kL_o fun p q hp hq => (s.2.2.2.2.2 p q hp hq).1
  intro m
  induction m with
  | zero =>
    intro k hk hkm M h r wi eo hh t1 b f
    obtain ⟨n7, _⟩ := nrV_a s ho.1 g wy t hkm
    have r7 := (r 457 (by omega) (by omega)).1
    rw [n7] at r7
    refine ⟨M, ?_, F2.rf _ M, by rw [show min (v (o + 2)) n = k by omega]; exact r, wi⟩
    rw [E_X12_nearest_64]
    simp only [m_s h, Option.bind_some, m_aL h (show 457 < 60190 by omega), r7, lN_i, nI_l (show n < 2 ^ 31 by omega), lg_cmp_ge, pk_lLE (show n < 2 ^ 63 by omega) (show k < 2 ^ 63 by omega), show min (v (o + 2)) n = k by omega]
    by_cases q : oI b = -1
    · rw [if_pos q]
    · rw [if_neg q, if_pos (by omega)]
  | succ m ih =>
    intro k hk hkm M h r wi eo hh t1 b f
    obtain ⟨n7, _⟩ := nrV_a s ho.1 g wy t hkm
    have r7 := (r 457 (by omega) (by omega)).1
    rw [n7] at r7
    have nx := nx_rk oR (E := fun _ => true) (k := k) (F := fun i => !tkK v o g wy (fun _ => true) k i) (fun i hi => by simp) f
    cases b with
    | none =>
      have cm : cnt (fun _ => true) (v (o + 2)) ≤ k := nx
      rw [cnt_all] at cm
      refine ⟨M, ?_, F2.rf _ M, by rw [show min (v (o + 2)) n = k by omega]; exact r, wi⟩
      rw [E_X12_nearest_64, if_pos (show oI none = -1 from rfl)]
      simp only [m_s h, Option.bind_some, m_aL h (show 457 < 60190 by omega), r7, lN_i, show min (v (o + 2)) n = k by omega]
    | some b =>
      obtain ⟨x1', x2', x3'⟩ := nx
      obtain ⟨M1, M2, b', a1, a2, a3, a4, a5, rfl, a7, a8, a9, a10, a11, a12, a14⟩ := R_nrS s hi hc ho hw (rd := fun _ => false) h r wi eo hh t1 x1' x3'
      obtain ⟨M3, c1, c2, c3, c4⟩ := ih (k + 1) (by omega) (by have := rk_cnt oR (E := fun _ => true) x1' rfl; rw [cnt_all] at this; omega) a4 a8 a9 a10 a11 a12 b' a14
      refine ⟨M3, ?_, a7.tr c2, c3, c4⟩
      rw [E_X12_nearest_64, if_neg (show ¬ oI (some b) = -1 from nI_nm1 (by omega))]
      simp only [m_s h, Option.bind_some, m_aL h (show 457 < 60190 by omega), r7, nI_l (show n < 2 ^ 31 by omega), lg_cmp_ge, pk_lLE (show n < 2 ^ 63 by omega) (show k < 2 ^ 63 by omega)]
      rw [if_neg (by omega)]
      simp only [m_tk h, Option.bind_some, show oI (some b) = nI b from rfl, m_b16 h (Or.inl rfl) (show b < 300 by omega), m_sel a1, a2, z_rL, a3, z_rV, m_sel a4, a5, z_rI, c1]
theorem R_nearest {v : Nat → Nat} (s : SV v) {w : Nat → Int32} {M : q_M} (h : SH M) (r : RI M v) (wi : WI M w) (x1 x2 x3 x4 x5 x6 : Int32) : (¬ (∃ j q wy n, askI v x1 x2 x3 x4 x5 x6 j q wy n) ∧ ∃ M1, q_CL 214 [.inr (.inr (some 49)), .inl x1, .inl x2, .inl x3, .inl x4, .inl x5, .inl x6] M = some (some (.inl (-1)), M1) ∧ FO (fun _ => False) M M1) ∨ ∃ j q wy n t rd M1, askI v x1 x2 x3 x4 x5 x6 j q wy n ∧ rdF v (oS j) q wy n t rd ∧ t ≤ v (oS j + 3) ∧ q_CL 214 [.inr (.inr (some 49)), .inl x1, .inl x2, .inl x3, .inl x4, .inl x5, .inl x6] M = some (some (.inl (nI (min (v (oS j + 2)) n))), M1) ∧ F2 f50 M M1 ∧ RI M1 (nrV v (oS j) q wy t (min (v (oS j + 2)) n)) ∧ WI M1 w := by
  rw [C_X12_nearest]
  simp only [m_sel h, Option.bind_some]
  obtain ⟨A, fA, ⟨hx, e⟩ | ⟨j, q, wy, n, a, eo, e⟩⟩ := R_askI s h r x1 x2 x3 x4 x5 x6
  · left
    refine ⟨hx, A, ?_, fA⟩
    rw [e]; rfl
  right
  have a' := a
  obtain ⟨hj, rfl, op, rfl, rfl, rfl, hq, rfl, hwy, rfl, n1, n2⟩ := a
  have ob := oS_b hj
  have ho : 1100 ≤ oS j ∧ oS j + 2110 ≤ 60180 := by omega
  obtain ⟨i8, hc⟩ := s.i8 hj op
  have sw := s.sw hj op
  have s1 := sw.1
  have s2 := sw.2.1
  have hA := fA.sh h
  have rA := fA.ri (by simp) r
  have wA := fA.wi (by simp) wi
  have hg : ∀ b, b < 3 → q b < 2 ^ 20 := fun b hb => by have := hq b hb; have := room_le hc hb; omega
  rw [e]
  simp only [z_rI, Option.bind_some]
  rw [if_neg (show ¬ nI 1 = 0 by decide +kernel)]
  obtain ⟨B, b1, b2, b3⟩ := R_stands hA hg
  have hB := b2.sh hA
  have eB : gI B 49 13 = nI (oS j) := (b2.2.2.2 49 13 (by omega)).trans eo
  obtain ⟨t, rd, C, c1, c2, c3, c4, c5⟩ := R_reads sw hc ho hwy ⟨n1, n2⟩ hB (b2.ri rA) eB b3
  have hC := c4.sh hB
  have eC : gI C 49 13 = nI (oS j) := (c4.2.2.2 49 13 (by unfold frd; omega)).trans eB
  obtain ⟨D, d1, d2, d3, d4⟩ := R_begins hC (c4.ri (b2.ri rA)) (c4.wi (b2.wi wA))
  have hD := d2.sh hC
  have f50' : f50 50 := rfl
  have hE : SH (stL D 50 459 (lN t)) := hD
  have rE : RI (stL D 50 459 (lN t)) (fd0 v t) := by
    have := RI_up (k := 459) d3 (show t < 2 ^ 62 by omega)
    have ee : va_up (fd0 v 0) 459 t = fd0 v t := by
      unfold fd0
      funext x
      by_cases z : x = 459
      · rw [z, va_up_self, va_up_self]
      · rw [va_up_ne _ _ z, va_up_ne _ _ z, va_up_ne _ _ z]
    rw [ee] at this; exact this
  have wE : WI (stL D 50 459 (lN t)) w := WI_up d4 (by omega)
  have fE : FL f50 C (stL D 50 459 (lN t)) := d2.st f50'
  obtain ⟨G, g1, g2, g3⟩ := R_none hE
  have hG := g2.sh hE
  have eG : gI G 49 13 = nI (oS j) := (g2.2.2.2 49 13 (by omega)).trans ((fE.2.2.2.1 49 13 (by unfold scr; omega)).trans eC)
  have hhG : HI G q := fun b hb => ⟨(g2.2.2.2 59 b (by omega)).trans ((fE.2.2.2.1 59 b (by unfold scr; omega)).trans ((c4.2.2.2 59 b (by unfold frd; omega)).trans (b3 b hb).1)), hg b hb⟩
  have tG0 : TI G 60 (tkK v (oS j) q wy (fun _ => true) 0) := fun i hi => by
    rw [g3 i hi]
    unfold tkK
    simp
  have rG : RI G (nrV v (oS j) q wy t 0) := g2.ri rE
  have wG := g2.wi wE
  obtain ⟨_, _, nx1, _⟩ := nrV_a sw ho.1 q wy t (N := 0) (by omega)
  have hx1 : ∀ x, x < 49 ∨ 1100 ≤ x → nrV v (oS j) q wy t 0 x = v x := fun x hx => nx1 x (by omega)
  obtain ⟨b, k1, k2⟩ := R_nO (SW_hi i8 hc ho.1 hx1 sw) (okI_cg (fun x hx' => hx1 x (Or.inl hx')) i8 hc) hG rG ho eG hhG hwy (rd := rd) tG0 false (Or.inl rfl)
  rw [(ds_hi ho.1 hx1 q wy).2, hx1 (oS j + 2) (by omega)] at k1
  have k1' : Fst (kL v (oS j) q wy) (fun i => !tkK v (oS j) q wy (fun _ => true) 0 i) (v (oS j + 2)) b := by
    have : (fun i => !tkK v (oS j) q wy (fun _ => true) 0 i) = eL (nrV v (oS j) q wy t 0) (oS j) (tkK v (oS j) q wy (fun _ => true) 0) rd false := by
      funext i
      unfold eL
      simp
    rw [this]; exact k1
  obtain ⟨N, l1, l2, l3, l4⟩ := R_nr64 sw i8 hc ho hwy n2 (t := t) (x1 := nI j) (x2 := nI (q 0)) (x3 := nI (q 1)) (x4 := nI (q 2)) (x7 := nI t) n 0 (by omega) (by omega) hG rG wG eG hhG tG0 b k1'
  refine ⟨j, q, wy, n, t, rd, N, a', c1, c2, ?_, ?_, l3, l4⟩
  · simp only [m_sel hA, Option.bind_some, b1, z_rV, m_sel hB, c5, z_rI, m_sel hC, d1, m_s hD, nI_l (show t < 2 ^ 31 by omega), m_bL hD (show 459 < 60190 by omega), m_sel hE, g1, m_sel hG, show nI 0 = nI (bN false) from rfl, k2, l1]
  · exact (((((F2.fo (fA.wk fun _ z => z.elim)).tr (F2.fr b2 fun a k z => Or.inr (Or.inr (Or.inl z)))).tr (F2.fr c4 fun a k z => by unfold frd at z; unfold sc2 scr; omega)).tr (F2.fl fE)).tr (F2.fr g2 fun a k z => Or.inr (Or.inr (Or.inr (Or.inl z))))).tr l2
