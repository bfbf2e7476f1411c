/-! ===== THE REFERENCE: which pages are read ===== -/
/-- the page whose box is nearest first -/
def kB (v : Nat → Nat) (o : Nat) (g : Nat → Nat) (wy k l : Nat) : Bool := decide (bxF v o g wy k < bxF v o g wy l ∨ (bxF v o g wy k = bxF v o g wy l ∧ k < l))
theorem kB_o {v : Nat → Nat} {o : Nat} {g : Nat → Nat} {wy m : Nat} : Ord (kB v o g wy) m := by
  unfold kB
  refine ⟨fun i hi => by simp, fun i j hi hj ne => ?_, fun i j k hi hj hk a b => ?_⟩
  · simp only [decide_eq_true_eq]
    omega
  · simp only [decide_eq_true_eq] at *
    omega
/-- t pages are read, those that are marked -/
def rdR (v : Nat → Nat) (o : Nat) (g : Nat → Nat) (wy n : Nat) : Nat → (Nat → Bool) → Prop
  | 0, rd => rd = fun _ => false
  | t + 1, rd => ∃ rd' b, rdR v o g wy n t rd' ∧ Fst (kB v o g wy) (fun k => !rd' k) (v (o + 3)) (some b) ∧ (∀ d, nth v o g wy (fun i => onR v o rd' i (v (o + 3))) n (some d) → bxF v o g wy b ≤ d) ∧ rd = fun k => if k = b then true else rd' k
def rdF (v : Nat → Nat) (o : Nat) (g : Nat → Nat) (wy n t : Nat) (rd : Nat → Bool) : Prop := rdR v o g wy n t rd ∧ (t = v (o + 3) ∨ ∃ b d, Fst (kB v o g wy) (fun k => !rd k) (v (o + 3)) (some b) ∧ nth v o g wy (fun i => onR v o rd i (v (o + 3))) n (some d) ∧ d < bxF v o g wy b)
theorem cnt_s {E : Nat → Bool} {b : Nat} (hb : E b = false) : ∀ m, cnt (fun k => if k = b then true else E k) m = cnt E m + if b < m then 1 else 0
  | 0 => rfl
  | m + 1 => by
    have ih := cnt_s hb m
    unfold cnt
    rw [ih]
    by_cases q : m = b
    · subst q
      simp [hb]
    · simp only [if_neg q]
      by_cases q2 : b < m
      · simp only [if_pos q2, if_pos (show b < m + 1 by omega)]
        omega
      · simp only [if_neg q2, if_neg (show ¬ b < m + 1 by omega)]
        omega
theorem cnt_no (m : Nat) : cnt (fun _ => false) m = 0 := by
  induction m with
  | zero => rfl
  | succ m ih => unfold cnt; rw [ih]; rfl
theorem cnt_all (m : Nat) : cnt (fun _ => true) m = m := by
  induction m with
  | zero => rfl
  | succ m ih => unfold cnt; rw [ih]; rfl
theorem cnt_n (E : Nat → Bool) : ∀ m, cnt (fun k => !E k) m + cnt E m = m
  | 0 => rfl
  | m + 1 => by
    have := cnt_n E m
    unfold cnt
    cases E m <;> simp <;> omega
theorem rdR_c {v : Nat → Nat} {o : Nat} {g : Nat → Nat} {wy n : Nat} : ∀ {t rd}, rdR v o g wy n t rd → cnt rd (v (o + 3)) = t
  | 0, rd, h => by rw [show rd = fun _ => false from h, cnt_no]
  | t + 1, rd, h => by
    obtain ⟨rd', b, h1, h2, _, h4⟩ := h
    have ih := rdR_c h1
    have nb := h2.2.1
    simp only [Bool.not_eq_true'] at nb
    rw [h4, cnt_s nb, ih, if_pos h2.1]
theorem Fst_nz {K : Nat → Nat → Bool} {E : Nat → Bool} {n : Nat} {r : Option Nat} (f : Fst K E n r) (h : 0 < cnt E n) : ∃ b, r = some b := by
  cases r with
  | some b => exact ⟨b, rfl⟩
  | none =>
    exfalso
    have : cnt E n = 0 := by
      rw [← cnt_no n]
      exact cnt_cg n fun i hi => f i hi
    omega
def frd (a _k : Nat) : Prop := a = 55 ∨ a = 56 ∨ a = 60 ∨ a = 61
theorem R_rd38 {v : Nat → Nat} {i o : Nat} (s : SW v i o) (hc : okI v i) (ho : 1100 ≤ o ∧ o + 2110 ≤ 60180) {g : Nat → Nat} {wy : Nat} (hw : wy < 3) {rd : Nat → Bool} {x2 x3 : Int32} {d6 : Option q_V} : ∀ m y, y + m = v (o + 3) → ∀ {M : q_M}, SH M → RI M v → gI M 49 13 = nI o → HI M g → TI M 61 rd → ∀ b, Fst (kB v o g wy) (fun k => !rd k) y b → ∃ b' M1, Fst (kB v o g wy) (fun k => !rd k) (v (o + 3)) b' ∧ fr b56 M M1 ∧ q_RL T_X12_reads (38, [some (.inr (.inr (some 49))), some (.inl (nI wy)), some (.inl x2), some (.inl x3), some (.inl (oI b)), some (.inl (nI y)), d6], [], M) = q_RL T_X12_reads (38, [some (.inr (.inr (some 49))), some (.inl (nI wy)), some (.inl x2), some (.inl x3), some (.inl (oI b')), some (.inl (nI (v (o + 3)))), d6], [], M1) := by
  have s1 := s.1
  have s2 := s.2.1
  intro m
  induction m with
  | zero =>
    intro y hy M h r eo hh t2 b f
    rw [Nat.add_zero] at hy
    rw [hy] at f ⊢
    exact ⟨b, M, f, fr.rf _ M, rfl⟩
  | succ m ih =>
    intro y hy M h r eo hh t2 b f
    rw [E_X12_reads_38]
    simp only [m_sel h, Option.bind_some, (R_fld h r ho eo).2.1, z_rI, m_rd h, m_a16 h (Or.inr rfl) (show y < 300 by omega), t2 y (by omega), bN0, nI_1]
    rw [if_neg (nI_ge (show y < v (o + 3) by omega) (by omega))]
    cases er : rd y with
    | true =>
      rw [if_neg (by simp)]
      exact ih (y + 1) (by omega) h r eo hh t2 b (Fst_no f (by rw [er]; rfl))
    | false =>
      rw [if_pos rfl]
      cases b with
      | none =>
        rw [if_pos (show oI none = -1 from rfl)]
        exact ih (y + 1) (by omega) h r eo hh t2 (some y) (Fst_n0 f (by rw [er]; rfl))
      | some b =>
        have hb := f.1
        rw [if_neg (show ¬ oI (some b) = -1 from nI_nm1 (by omega))]
        obtain ⟨M1, p1, p2⟩ := R_bxF s hc h r ho eo hh hw (show y < v (o + 3) by omega)
        have h1 := p2.sh h
        have r1 := p2.ri r
        have e1 : gI M1 49 13 = nI o := (p2.2.2.2 49 13 (by unfold b56; omega)).trans eo
        have hh1 := HI.fr p2 (fun k => by unfold b56; omega) hh
        have t21 := TI.fr p2 (fun k => by unfold b56; omega) t2
        obtain ⟨M2, p3, p4⟩ := R_bxF s hc h1 r1 ho e1 hh1 hw (show b < v (o + 3) by omega)
        have h2 := p4.sh h1
        have r2 := p4.ri r1
        have e2 : gI M2 49 13 = nI o := (p4.2.2.2 49 13 (by unfold b56; omega)).trans e1
        have hh2 := HI.fr p4 (fun k => by unfold b56; omega) hh1
        have t22 := TI.fr p4 (fun k => by unfold b56; omega) t21
        have d1 := (bxF_b s hc (fun a ha => (hh a ha).2) (wy := wy) (show y < v (o + 3) by omega)).2
        have d2 := (bxF_b s hc (fun a ha => (hh a ha).2) (wy := wy) (show b < v (o + 3) by omega)).2
        simp only [p1, z_rL, Option.bind_some, m_sel h1, show oI (some b) = nI b from rfl, p3, lg_cmp_ge, pk_lLE (show bxF v o g wy b < 2 ^ 63 by omega) (show bxF v o g wy y < 2 ^ 63 by omega)]
        by_cases c : bxF v o g wy b ≤ bxF v o g wy y
        · rw [if_pos c]
          obtain ⟨b', M3, q1, q2, q3⟩ := ih (y + 1) (by omega) h2 r2 e2 hh2 t22 (some b) (Fst_ge f (by unfold kB; simp only [decide_eq_true_eq]; omega))
          exact ⟨b', M3, q1, (p2.tr p4).tr q2, q3⟩
        · rw [if_neg c]
          obtain ⟨b', M3, q1, q2, q3⟩ := ih (y + 1) (by omega) h2 r2 e2 hh2 t22 (some y) (Fst_lt (m := v (o + 3)) kB_o (by omega) f (by rw [er]; rfl) (by unfold kB; simp only [decide_eq_true_eq]; omega))
          exact ⟨b', M3, q1, (p2.tr p4).tr q2, q3⟩
theorem nth_eq {v : Nat → Nat} {o : Nat} {g : Nat → Nat} {wy : Nat} (oR : Ord (kL v o g wy) (v (o + 2))) {E : Nat → Bool} {n : Nat} {a b : Option Nat} (ha : nth v o g wy E n a) (hb : nth v o g wy E n b) : a = b := by
  cases a with
  | none =>
    cases b with
    | none => rfl
    | some d =>
      have h1 : cnt E (v (o + 2)) < n := ha
      have := hb.1
      omega
  | some d =>
    cases b with
    | none =>
      have h1 : cnt E (v (o + 2)) < n := hb
      have := ha.1
      omega
    | some d2 =>
      obtain ⟨_, i, i1, i2, i3, i4⟩ := ha
      obtain ⟨_, j, j1, j2, j3, j4⟩ := hb
      have : i = j := rk_inj oR i1 j1 i2 j2 (by omega)
      rw [i4, j4, this]
theorem R_rd24 {v : Nat → Nat} {i o : Nat} (s : SW v i o) (hc : okI v i) (ho : 1100 ≤ o ∧ o + 2110 ≤ 60180) {g : Nat → Nat} {wy : Nat} (hw : wy < 3) {n : Nat} (hn : 1 ≤ n ∧ n ≤ 20) : ∀ m t, t + m = v (o + 3) → ∀ {M : q_M}, SH M → RI M v → gI M 49 13 = nI o → HI M g → ∀ rd, TI M 61 rd → rdR v o g wy n t rd → ∀ d4 d5 d6, ∃ t' rd' M1, rdF v o g wy n t' rd' ∧ t' ≤ v (o + 3) ∧ TI M1 61 rd' ∧ fr frd M M1 ∧ q_RL T_X12_reads (24, [some (.inr (.inr (some 49))), some (.inl (nI wy)), some (.inl (nI n)), some (.inl (nI t)), d4, d5, d6], [], M) = some (some (.inl (nI t')), M1) := by
  have s1 := s.1
  have s2 := s.2.1
  have oR : Ord (kL v o g wy) (v (o + 2)) := kL_o fun p q hp hq => (s.2.2.2.2.2 p q hp hq).1
  intro m
  induction m with
  | zero =>
    intro t ht M h r eo hh rd t2 rr d4 d5 d6
    refine ⟨t, rd, M, ⟨rr, Or.inl (by omega)⟩, by omega, t2, fr.rf _ M, ?_⟩
    rw [E_X12_reads_24]
    simp only [m_sel h, Option.bind_some, (R_fld h r ho eo).2.1, z_rI]
    rw [if_pos (nI_le (by omega) (by omega))]
  | succ m ih =>
    intro t ht M h r eo hh rd t2 rr d4 d5 d6
    rw [E_X12_reads_24]
    simp only [m_sel h, Option.bind_some, (R_fld h r ho eo).2.1, z_rI]
    rw [if_neg (nI_ge (by omega) (by omega))]
    obtain ⟨b', M1, q1, q2, q3⟩ := R_rd38 s hc ho hw (x2 := nI n) (x3 := nI t) (d6 := d6) (v (o + 3)) 0 (by omega) h r eo hh t2 none (Fst_0 _ _)
    have q3' : q_RL T_X12_reads (38, [some (.inr (.inr (some 49))), some (.inl (nI wy)), some (.inl (nI n)), some (.inl (nI t)), some (.inl (-1)), some (.inl (nI 0)), d6], [], M) = _ := q3
    rw [q3']
    have cn := rdR_c rr
    have cm := cnt_n rd (v (o + 3))
    obtain ⟨b, rfl⟩ := Fst_nz q1 (by omega)
    have h1 := q2.sh h
    have r1 := q2.ri r
    have e1 : gI M1 49 13 = nI o := (q2.2.2.2 49 13 (by unfold b56; omega)).trans eo
    have hh1 := HI.fr q2 (fun k => by unfold b56; omega) hh
    have t21 := TI.fr q2 (fun k => by unfold b56; omega) t2
    obtain ⟨d, M2, n1, n2, n3⟩ := R_nth s hc h1 r1 ho e1 hh1 hw (fun k hk => t21 k (by omega)) hn
    have h2 := n3.sh h1
    have r2 := n3.ri r1
    have e2 : gI M2 49 13 = nI o := (n3.2.2.2 49 13 (by omega)).trans e1
    have hh2 := HI.fr n3 (fun k => by omega) hh1
    have t22 := TI.fr n3 (fun k => by omega) t21
    have hb := q1.1
    have db := (bxF_b s hc (fun a ha => (hh a ha).2) (wy := wy) hb).2
    have f12 : fr frd M M2 := (q2.wk fun a k z => by unfold b56 at z; unfold frd; omega).tr (n3.wk fun a k z => by unfold frd; omega)
    rw [E_X12_reads_38]
    simp only [m_sel h1, Option.bind_some, (R_fld h1 r1 ho e1).2.1, z_rI]
    rw [if_pos (nI_le (Nat.le_refl _) (by omega))]
    simp only [n2, z_rL, Option.bind_some, show oI (some b) = nI b from rfl]
    have mark : ∀ {M3 : q_M}, SH M3 → RI M3 v → gI M3 49 13 = nI o → HI M3 g → TI M3 61 rd → fr frd M M3 → (∀ d, nth v o g wy (fun i => onR v o rd i (v (o + 3))) n (some d) → bxF v o g wy b ≤ d) → ∀ l5, ∃ t' rd' M1, rdF v o g wy n t' rd' ∧ t' ≤ v (o + 3) ∧ TI M1 61 rd' ∧ fr frd M M1 ∧ ((q_fR M3 12 49 16).bind fun r10 => r10.bind fun a11 => (q_bI M3 16 a11 (nI b) ((nI 1) &&& 1)).bind fun M12 => q_RL T_X12_reads (24, [some (.inr (.inr (some 49))), some (.inl (nI wy)), some (.inl (nI n)), some (.inl (nI t + 1)), some (.inl (nI b)), some (.inr (.inl l5)), none], [], M12)) = some (some (.inl (nI t')), M1) := fun {M3} h3 r3 e3 hh3 t23 f3 nd l5 => by
      simp only [m_rd h3, Option.bind_some, m_b16 h3 (Or.inr rfl) (show b < 300 by omega), show nI 1 &&& 1 = nI (bN true) by decide +kernel, nI_1]
      obtain ⟨t', rd', M4, p1, p2, p3, p4, p5⟩ := ih (t + 1) (by omega) (M := stI M3 61 b (nI (bN true))) h3 r3 ((gI_oth (by omega)).trans e3) (fun a ha => ⟨(gI_oth (by omega)).trans (hh3 a ha).1, (hh3 a ha).2⟩) (fun k => if k = b then true else rd k) (TI_st (by omega) t23 true) ⟨rd, b, rr, q1, nd, rfl⟩ (some (.inl (nI b))) (some (.inr (.inl l5))) none
      exact ⟨t', rd', M4, p1, p2, p3, (f3.tr ((fr.rf frd M3).st (show frd 61 b from Or.inr (Or.inr (Or.inr rfl))))).tr p4, p5⟩
    cases d with
    | none =>
      rw [if_pos (show lg_cmp (oL none) (lN 0) < 0 by decide +kernel)]
      exact mark h2 r2 e2 hh2 t22 f12 (fun d hd => by
        have := nth_eq oR n1 hd
        cases this) _
    | some d =>
      have hd : d < 2 ^ 42 := by
        obtain ⟨_, j, j1, j2, j3, j4⟩ := n1
        rw [j4]
        exact dsP_b (fun a ha => s.pt hc j1 ha) (fun a ha => (hh a ha).2)
      obtain ⟨M3, p1, p2⟩ := R_bxF s hc h2 r2 ho e2 hh2 hw hb
      have h3 := p2.sh h2
      have r3 := p2.ri r2
      have e3 : gI M3 49 13 = nI o := (p2.2.2.2 49 13 (by unfold b56; omega)).trans e2
      have hh3 := HI.fr p2 (fun k => by unfold b56; omega) hh2
      have t23 := TI.fr p2 (fun k => by unfold b56; omega) t22
      have f13 := f12.tr (p2.wk (Q := frd) fun a k z => by unfold b56 at z; unfold frd; omega)
      rw [if_neg (by rw [lg_cmp_lt]; show ¬ lN d < lN 0; rw [pk_lLT (by omega) (by omega)]; omega)]
      simp only [m_sel h2, Option.bind_some, p1, z_rL, lg_cmp_le, show oL (some d) = lN d from rfl, pk_lLE (show bxF v o g wy b < 2 ^ 63 by omega) (show d < 2 ^ 63 by omega)]
      by_cases c : bxF v o g wy b ≤ d
      · rw [if_pos c]
        exact mark h3 r3 e3 hh3 t23 f13 (fun d' hd' => by
          have := nth_eq oR n1 hd'
          cases this
          exact c) _
      · rw [if_neg c]
        exact ⟨t, rd, M3, ⟨rr, Or.inr ⟨b, d, q1, n1, by omega⟩⟩, by omega, t23, f13, rfl⟩
theorem R_reads {v : Nat → Nat} {i o : Nat} (s : SW v i o) (hc : okI v i) (ho : 1100 ≤ o ∧ o + 2110 ≤ 60180) {g : Nat → Nat} {wy : Nat} (hw : wy < 3) {n : Nat} (hn : 1 ≤ n ∧ n ≤ 20) {M : q_M} (h : SH M) (r : RI M v) (eo : gI M 49 13 = nI o) (hh : HI M g) : ∃ t rd M1, rdF v o g wy n t rd ∧ t ≤ v (o + 3) ∧ TI M1 61 rd ∧ fr frd M M1 ∧ q_CL 212 [.inr (.inr (some 49)), .inl (nI wy), .inl (nI n)] M = some (some (.inl (nI t)), M1) := by
  rw [C_X12_reads]
  have key : ∀ m y, y + m = 300 → ∀ {M : q_M}, SH M → RI M v → gI M 49 13 = nI o → HI M g → (∀ k, k < y → gI M 61 k = nI (bN false)) → ∃ t rd M1, rdF v o g wy n t rd ∧ t ≤ v (o + 3) ∧ TI M1 61 rd ∧ fr frd M M1 ∧ q_RL T_X12_reads (2, [some (.inr (.inr (some 49))), some (.inl (nI wy)), some (.inl (nI n)), some (.inl (nI y)), none, none, none], [], M) = some (some (.inl (nI t)), M1) := by
    intro m
    induction m with
    | zero =>
      intro y hy M h r eo hh e
      rw [E_X12_reads_2, if_pos (nI_le (by omega) (by omega))]
      exact R_rd24 s hc ho hw hn (v (o + 3)) 0 (by omega) h r eo hh (fun _ => false) (fun k hk => e k (by omega)) rfl none none none
    | succ m ih =>
      intro y hy M h r eo hh e
      obtain ⟨t, rd, M1, p1, p2, p3, p4, p5⟩ := ih (y + 1) (by omega) (M := stI M 61 y (nI (bN false))) h r ((gI_oth (by omega)).trans eo) (fun a ha => ⟨(gI_oth (by omega)).trans (hh a ha).1, (hh a ha).2⟩) (fun k hk => by
        by_cases q : k = y
        · subst q; exact gI_self
        · rw [gI_oth (by omega)]; exact e k (by omega))
      refine ⟨t, rd, M1, p1, p2, p3, ((fr.rf frd M).st (show frd 61 y from Or.inr (Or.inr (Or.inr rfl)))).tr p4, ?_⟩
      rw [E_X12_reads_2, if_neg (nI_ge (by omega) (by omega))]
      simp only [m_rd h, Option.bind_some, m_b16 h (Or.inr rfl) (show y < 300 by omega), show nI 0 &&& 1 = nI (bN false) by decide +kernel, nI_1]
      exact p5
  exact key 300 0 (by omega) h r eo hh (fun k hk => by omega)
