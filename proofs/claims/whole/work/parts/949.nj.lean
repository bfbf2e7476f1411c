/-! ===== THE REFERENCE: check ===== -/
/-- the distance that the bytes of page k tell -/
def rdB (bt : Nat → Int32) (k : Nat) : Nat → Int64
  | 0 => lN 0
  | i + 1 => (rdB bt k i <<< (Int32.toInt64 (nI 8) &&& 63)) ||| Int32.toInt64 (bt (9 * k + 1 + i) &&& nI 255)
def okW (bt : Nat → Int32) (f : Nat → Nat) (k : Nat) : Prop := (bt (9 * k) = 0 ∨ bt (9 * k) = nI 1) ∧ rdB bt k 8 = lN (f k)
def mkW (bt : Nat → Int32) (k : Nat) : Bool := decide (bt (9 * k) = nI 1)
theorem R_ch59 {bt : Nat → Int32} {k N : Nat} (hk : 9 * k + 9 ≤ N) {x1 x2 x3 x4 x5 x6 : Int32} {M : q_M} (h : SH M) (x : XI M bt N) : ∀ m i, i + m = 8 → ∀ d9, ∃ d9', q_RL T_X12_check (59, [some (.inr (.inr (some 49))), some (.inl x1), some (.inl x2), some (.inl x3), some (.inl x4), some (.inl x5), some (.inl x6), some (.inl (nI k)), some (.inr (.inl (rdB bt k i))), d9, some (.inl (nI i))], [], M) = q_RL T_X12_check (59, [some (.inr (.inr (some 49))), some (.inl x1), some (.inl x2), some (.inl x3), some (.inl x4), some (.inl x5), some (.inl x6), some (.inl (nI k)), some (.inr (.inl (rdB bt k 8))), d9', some (.inl (nI 8))], [], M) := by
  obtain ⟨e1, e2, e3⟩ := x
  intro m
  induction m with
  | zero =>
    intro i hi d9
    rw [Nat.add_zero] at hi
    rw [hi]
    exact ⟨d9, rfl⟩
  | succ m ih =>
    intro i hi d9
    obtain ⟨d9', e⟩ := ih (i + 1) (by omega) none
    refine ⟨d9', ?_⟩
    rw [← e, E_X12_check_59, if_neg (nI_ge (by omega) (by omega))]
    simp only [m_ou h, Option.bind_some, pk_mul, nI_add, m_a13 h (show 9 * k + 1 + i < 2700 by omega), e3 (9 * k + 1 + i) (by omega), nI_1]
    rfl
def sc4 (a k : Nat) : Prop := sc2 a k
/-- what check finds -/
def ckA (v : Nat → Nat) (o : Nat) (g : Nat → Nat) (wy n : Nat) (bt : Nat → Int32) (x : Int32) : Prop := (∃ k, k < v (o + 3) ∧ ¬ okW bt (bxF v o g wy) k ∧ (∀ l, l < k → okW bt (bxF v o g wy) l) ∧ x = nI k) ∨ ((∀ l, l < v (o + 3) → okW bt (bxF v o g wy) l) ∧ ∃ d, nth v o g wy (fun i => onR v o (mkW bt) i (v (o + 3))) n d ∧ ((∃ k, k < v (o + 3) ∧ (mkW bt k = false ∧ ∀ dd, d = some dd → bxF v o g wy k ≤ dd) ∧ (∀ l, l < k → ¬ (mkW bt l = false ∧ ∀ dd, d = some dd → bxF v o g wy l ≤ dd)) ∧ x = nI k) ∨ ((∀ l, l < v (o + 3) → ¬ (mkW bt l = false ∧ ∀ dd, d = some dd → bxF v o g wy l ≤ dd)) ∧ x = -1)))
theorem R_ch190 {v : Nat → Nat} {i o : Nat} (s : SW v i o) (hc : okI v i) (ho : 1100 ≤ o ∧ o + 2110 ≤ 60180) {g : Nat → Nat} {wy n : Nat} (hw : wy < 3) {bt : Nat → Int32} {d : Option Nat} (hd : ∀ dd, d = some dd → dd < 2 ^ 42) {x1 x2 x3 x4 x6 : Int32} {d10 : Option q_V} : ∀ m k, k + m = v (o + 3) → (∀ l, l < k → ¬ (mkW bt l = false ∧ ∀ dd, d = some dd → bxF v o g wy l ≤ dd)) → ∀ {M : q_M}, SH M → RI M v → gI M 49 13 = nI o → HI M g → TP M (v (o + 3)) (mkW bt) → ∀ d8, ∃ x M1, ((∃ k, k < v (o + 3) ∧ (mkW bt k = false ∧ ∀ dd, d = some dd → bxF v o g wy k ≤ dd) ∧ (∀ l, l < k → ¬ (mkW bt l = false ∧ ∀ dd, d = some dd → bxF v o g wy l ≤ dd)) ∧ x = nI k) ∨ ((∀ l, l < v (o + 3) → ¬ (mkW bt l = false ∧ ∀ dd, d = some dd → bxF v o g wy l ≤ dd)) ∧ x = -1)) ∧ q_RL T_X12_check (190, [some (.inr (.inr (some 49))), some (.inl x1), some (.inl x2), some (.inl x3), some (.inl x4), some (.inl (nI wy)), some (.inl x6), some (.inr (.inl (oL d))), d8, some (.inl (nI k)), d10], [], M) = some (some (.inl x), M1) ∧ fr b56 M M1 := by
  have s1 := s.1
  have s2 := s.2.1
  intro m
  induction m with
  | zero =>
    intro k hk hl M h r eo hh t2 d8
    refine ⟨-1, M, Or.inr ⟨fun l hl2 => hl l (by omega), rfl⟩, ?_, fr.rf _ M⟩
    rw [E_X12_check_190]
    simp only [m_sel h, Option.bind_some, (R_fld h r ho eo).2.1, z_rI]
    rw [if_pos (nI_le (by omega) (by omega))]
  | succ m ih =>
    intro k hk hl M h r eo hh t2 d8
    have hk2 : k < v (o + 3) := by omega
    rw [E_X12_check_190]
    simp only [m_sel h, Option.bind_some, (R_fld h r ho eo).2.1, z_rI, m_rd h, m_a16 h (Or.inr rfl) (show k < 300 by omega), t2 k hk2, bN0, nI_1]
    rw [if_neg (nI_ge hk2 (by omega))]
    cases em : mkW bt k with
    | true =>
      rw [if_neg (by simp)]
      exact ih (k + 1) (by omega) (fun l hl2 => by
        by_cases q : l = k
        · subst q
          rw [em]
          exact fun z => by cases z.1
        · exact hl l (by omega)) h r eo hh t2 _
    | false =>
      rw [if_pos rfl]
      cases d with
      | none =>
        rw [if_pos (show lg_cmp (oL none) (lN 0) < 0 by decide +kernel)]
        exact ⟨nI k, M, Or.inl ⟨k, hk2, ⟨em, fun dd z => by cases z⟩, hl, rfl⟩, rfl, fr.rf _ M⟩
      | some d =>
        have hd2 := hd d rfl
        obtain ⟨M1, p1, p2⟩ := R_bxF s hc h r ho eo hh hw hk2
        have db := (bxF_b s hc (fun a ha => (hh a ha).2) (wy := wy) hk2).2
        rw [if_neg (by rw [lg_cmp_lt]; show ¬ lN d < lN 0; rw [pk_lLT (by omega) (by omega)]; omega)]
        simp only [p1, z_rL, Option.bind_some, lg_cmp_gt, show oL (some d) = lN d from rfl, pk_lLT (show d < 2 ^ 63 by omega) (show bxF v o g wy k < 2 ^ 63 by omega)]
        by_cases c : d < bxF v o g wy k
        · rw [if_pos c]
          obtain ⟨x, M2, q1, q2, q3⟩ := ih (k + 1) (by omega) (fun l hl2 => by
            by_cases q : l = k
            · subst q
              intro z
              have := z.2 d rfl
              omega
            · exact hl l (by omega)) (p2.sh h) (p2.ri r) ((p2.2.2.2 49 13 (by unfold b56; omega)).trans eo) (HI.fr p2 (fun k => by unfold b56; omega) hh) (fun l hl2 => (p2.2.2.2 61 l (by unfold b56; omega)).trans (t2 l hl2)) (q_kill d8)
          exact ⟨x, M2, q1, q2, p2.tr q3⟩
        · rw [if_neg c]
          exact ⟨nI k, M1, Or.inl ⟨k, hk2, ⟨em, fun dd z => by cases z; omega⟩, hl, rfl⟩, rfl, p2⟩
theorem R_ch44 {v : Nat → Nat} {i o : Nat} (s : SW v i o) (hc : okI v i) (ho : 1100 ≤ o ∧ o + 2110 ≤ 60180) {g : Nat → Nat} {wy n : Nat} (hw : wy < 3) (hn : 1 ≤ n ∧ n ≤ 20) {bt : Nat → Int32} {x1 x2 x3 x4 : Int32} : ∀ m k, k + m = v (o + 3) → (∀ l, l < k → okW bt (bxF v o g wy) l) → ∀ {M : q_M}, SH M → RI M v → gI M 49 13 = nI o → HI M g → XI M bt (9 * v (o + 3)) → (∀ l, l < k → gI M 61 l = nI (bN (mkW bt l))) → ∀ d8 d9 d10, ∃ x M1, ckA v o g wy n bt x ∧ q_RL T_X12_check (44, [some (.inr (.inr (some 49))), some (.inl x1), some (.inl x2), some (.inl x3), some (.inl x4), some (.inl (nI wy)), some (.inl (nI n)), some (.inl (nI k)), d8, d9, d10], [], M) = some (some (.inl x), M1) ∧ fr frd M M1 := by
  have s1 := s.1
  have s2 := s.2.1
  intro m
  induction m with
  | zero =>
    intro k hk hl M h r eo hh xi t2 d8 d9 d10
    rw [E_X12_check_44]
    simp only [m_sel h, Option.bind_some, (R_fld h r ho eo).2.1, z_rI]
    rw [if_pos (nI_le (by omega) (by omega))]
    have t2' : TP M (v (o + 3)) (mkW bt) := fun l hl2 => t2 l (by omega)
    obtain ⟨d, M2, n1, n2, n3⟩ := R_nth s hc h r ho eo hh hw t2' hn
    have hd : ∀ dd, d = some dd → dd < 2 ^ 42 := fun dd e => by
      subst e
      obtain ⟨_, j, j1, j2, j3, j4⟩ := n1
      rw [j4]
      exact dsP_b (fun a ha => s.pt hc j1 ha) (fun a ha => (hh a ha).2)
    obtain ⟨x, M3, q1, q2, q3⟩ := R_ch190 s hc ho hw (n := n) hd (x1 := x1) (x2 := x2) (x3 := x3) (x4 := x4) (x6 := nI n) (d10 := d10) (v (o + 3)) 0 (by omega) (fun l hl2 => by omega) (n3.sh h) (n3.ri r) ((n3.2.2.2 49 13 (by omega)).trans eo) (HI.fr n3 (fun k => by omega) hh) (fun l hl2 => (n3.2.2.2 61 l (by omega)).trans (t2' l hl2)) none
    refine ⟨x, M3, Or.inr ⟨fun l hl2 => hl l (by omega), d, n1, q1⟩, ?_, (n3.wk fun a k z => by unfold frd; omega).tr (q3.wk fun a k z => by unfold b56 at z; unfold frd; omega)⟩
    simp only [n2, z_rL, Option.bind_some, q2]
  | succ m ih =>
    intro k hk hl M h r eo hh xi t2 d8 d9 d10
    have hk2 : k < v (o + 3) := by omega
    have xi' := xi
    obtain ⟨e1, e2, e3⟩ := xi
    have b0 := e3 (9 * k) (by omega)
    rw [E_X12_check_44]
    simp only [m_sel h, Option.bind_some, (R_fld h r ho eo).2.1, z_rI]
    rw [if_neg (nI_ge hk2 (by omega))]
    obtain ⟨d9', ec⟩ := R_ch59 (k := k) (N := 9 * v (o + 3)) (by omega) (x1 := x1) (x2 := x2) (x3 := x3) (x4 := x4) (x5 := nI wy) (x6 := nI n) h xi' 8 0 (by omega) none
    have ec' : q_RL T_X12_check (59, [some (.inr (.inr (some 49))), some (.inl x1), some (.inl x2), some (.inl x3), some (.inl x4), some (.inl (nI wy)), some (.inl (nI n)), some (.inl (nI k)), some (.inr (.inl (lN 0))), none, some (.inl (nI 0))], [], M) = _ := ec
    rw [ec', E_X12_check_59, if_pos (nI_le (by omega) (by omega))]
    obtain ⟨B, b1, b2⟩ := R_bxF s hc h r ho eo hh hw hk2
    have hB := b2.sh h
    have bb0 : gI B 62 (9 * k) = bt (9 * k) := (b2.2.2.2 62 _ (by unfold b56; omega)).trans b0
    simp only [m_ou h, Option.bind_some, pk_mul, m_a13 h (show 9 * k < 2700 by omega), b0, m_sel h, b1, z_rL, lg_cmp_eq, m_rd hB, m_ou hB, m_a13 hB (show 9 * k < 2700 by omega), bb0, m_b16 hB (Or.inr rfl) (show k < 300 by omega)]
    have fB : fr frd M B := b2.wk fun a k z => by unfold b56 at z; unfold frd; omega
    have bad : ¬ okW bt (bxF v o g wy) k → ckA v o g wy n bt (nI k) := fun z => Or.inl ⟨k, hk2, z, hl, rfl⟩
    have good : okW bt (bxF v o g wy) k → ∀ d8 d9 d10, ∃ x M1, ckA v o g wy n bt x ∧ q_RL T_X12_check (44, [some (.inr (.inr (some 49))), some (.inl x1), some (.inl x2), some (.inl x3), some (.inl x4), some (.inl (nI wy)), some (.inl (nI n)), some (.inl (nI k + 1)), d8, d9, d10], [], stI B 61 k (nI (bN (mkW bt k)))) = some (some (.inl x), M1) ∧ fr frd M M1 := fun z d8 d9 d10 => by
      have kB : ∀ a l, ¬ (a = 55 ∨ a = 56) → ¬ (a = 61 ∧ l = k) → gI (stI B 61 k (nI (bN (mkW bt k)))) a l = gI M a l := fun a l n1 n2 => (gI_oth n2).trans (b2.2.2.2 a l n1)
      rw [nI_1]
      obtain ⟨x, M1, q1, q2, q3⟩ := ih (k + 1) (by omega) (fun l hl2 => by
        by_cases q : l = k
        · subst q; exact z
        · exact hl l (by omega)) (M := stI B 61 k (nI (bN (mkW bt k)))) hB (b2.ri r) ((kB 49 13 (by omega) (by omega)).trans eo) (fun a ha => ⟨(kB 59 a (by omega) (by omega)).trans (hh a ha).1, (hh a ha).2⟩) ⟨(kB 49 20 (by omega) (by omega)).trans e1, e2, fun l hl2 => (kB 62 l (by omega) (by omega)).trans (e3 l hl2)⟩ (fun l hl2 => by
        by_cases q : l = k
        · subst q; exact gI_self
        · rw [kB 61 l (by omega) (by omega)]; exact t2 l (by omega)) d8 d9 d10
      exact ⟨x, M1, q1, q2, (fB.st (show frd 61 k from Or.inr (Or.inr (Or.inr rfl)))).tr q3⟩
    have m1 : bt (9 * k) = nI 1 → nI 1 &&& 1 = nI (bN (mkW bt k)) := fun z => by
      unfold mkW
      rw [decide_eq_true z]
      decide +kernel
    have m0 : ¬ bt (9 * k) = nI 1 → nI 0 &&& 1 = nI (bN (mkW bt k)) := fun z => by
      unfold mkW
      rw [decide_eq_false z]
      decide +kernel
    by_cases c : rdB bt k 8 = lN (bxF v o g wy k)
    · by_cases z0 : bt (9 * k) = 0
      · have z1 : ¬ bt (9 * k) = nI 1 := fun q => by rw [z0] at q; revert q; decide +kernel
        rw [if_pos z0, if_pos c, if_neg z1, m0 z1]
        exact good ⟨Or.inl z0, c⟩ _ _ _
      · rw [if_neg z0]
        by_cases z1 : bt (9 * k) = nI 1
        · rw [if_pos z1, if_pos c, if_pos z1, m1 z1]
          exact good ⟨Or.inr z1, c⟩ _ _ _
        · rw [if_neg z1]
          exact ⟨nI k, M, bad (fun q => q.1.elim z0 z1), rfl, fr.rf _ M⟩
    · by_cases z0 : bt (9 * k) = 0
      · rw [if_pos z0, if_neg c]
        exact ⟨nI k, B, bad (fun q => c q.2), rfl, fB⟩
      · rw [if_neg z0]
        by_cases z1 : bt (9 * k) = nI 1
        · rw [if_pos z1, if_neg c]
          exact ⟨nI k, B, bad (fun q => c q.2), rfl, fB⟩
        · rw [if_neg z1]
          exact ⟨nI k, M, bad (fun q => c q.2), rfl, fr.rf _ M⟩
theorem R_check {v : Nat → Nat} (s : SV v) {M : q_M} (h : SH M) (r : RI M v) {bt : Nat → Int32} {N : Nat} (xi : XI M bt N) (x1 x2 x3 x4 x5 x6 : Int32) : (¬ (∃ j q wy n, askI v x1 x2 x3 x4 x5 x6 j q wy n ∧ N = 9 * v (oS j + 3)) ∧ ∃ M1, q_CL 227 [.inr (.inr (some 49)), .inl x1, .inl x2, .inl x3, .inl x4, .inl x5, .inl x6] M = some (some (.inl (-2)), M1) ∧ FO (fun _ => False) M M1) ∨ ∃ j q wy n x M1, askI v x1 x2 x3 x4 x5 x6 j q wy n ∧ N = 9 * v (oS j + 3) ∧ ckA v (oS j) q wy n bt x ∧ q_CL 227 [.inr (.inr (some 49)), .inl x1, .inl x2, .inl x3, .inl x4, .inl x5, .inl x6] M = some (some (.inl x), M1) ∧ F2 (fun _ => False) M M1 := by
  rw [C_X12_check]
  simp only [m_sel h, Option.bind_some]
  obtain ⟨A, fA, ⟨hx, e⟩ | ⟨j, q, wy, n, a, eo, e⟩⟩ := R_askI s h r x1 x2 x3 x4 x5 x6
  · left
    refine ⟨fun ⟨j, q, wy, n, z, _⟩ => hx ⟨j, q, wy, n, z⟩, A, ?_, fA⟩
    rw [e]; rfl
  have a' := a
  obtain ⟨hj, rfl, op, rfl, rfl, rfl, hq, rfl, hwy, rfl, n1, n2⟩ := a
  have ob := oS_b hj
  have ho : 1100 ≤ oS j ∧ oS j + 2110 ≤ 60180 := by omega
  obtain ⟨i8, hc⟩ := s.i8 hj op
  have sw := s.sw hj op
  have s1 := sw.1
  have s2 := sw.2.1
  have hA := fA.sh h
  have rA := fA.ri (by simp) r
  obtain ⟨y1, y2, y3⟩ := xi
  have xA : XI A bt N := ⟨(fA.2.2.2.1 49 20 (by unfold scr; omega) (by omega)).trans y1, y2, fun k hk => (fA.2.2.2.1 62 k (by unfold scr; omega) (by omega)).trans (y3 k hk)⟩
  have hg : ∀ b, b < 3 → q b < 2 ^ 20 := fun b hb => by have := hq b hb; have := room_le hc hb; omega
  rw [e]
  simp only [z_rI, Option.bind_some]
  rw [if_neg (show ¬ nI 1 = 0 by decide +kernel)]
  simp only [m_fI hA, m_sel hA, Option.bind_some, xA.1, (R_fld hA rA ho eo).2.1, z_rI, pk_mul, nI_eq (show N < 2 ^ 31 by omega) (show 9 * v (oS j + 3) < 2 ^ 31 by omega)]
  by_cases c : N = 9 * v (oS j + 3)
  · right
    rw [if_pos c]
    obtain ⟨B, b1, b2, b3⟩ := R_stands hA hg
    have hB := b2.sh hA
    have eB : gI B 49 13 = nI (oS j) := (b2.2.2.2 49 13 (by omega)).trans eo
    have xB : XI B bt (9 * v (oS j + 3)) := by
      rw [← c]
      exact ⟨(b2.2.2.2 49 20 (by omega)).trans xA.1, xA.2.1, fun k hk => (b2.2.2.2 62 k (by omega)).trans (xA.2.2 k hk)⟩
    obtain ⟨x, C, c1, c2, c3⟩ := R_ch44 sw hc ho hwy ⟨n1, n2⟩ (x1 := nI j) (x2 := nI (q 0)) (x3 := nI (q 1)) (x4 := nI (q 2)) (v (oS j + 3)) 0 (by omega) (fun l hl => by omega) hB (b2.ri rA) eB b3 xB (fun l hl => by omega) none none none
    refine ⟨j, q, wy, n, x, C, a', c, c1, ?_, ((F2.fo fA).tr (F2.fr b2 fun a k z => Or.inr (Or.inr (Or.inl z)))).tr (F2.fr c3 fun a k z => by unfold frd at z; unfold sc2 scr; omega)⟩
    simp only [b1, z_rV, Option.bind_some, c2]
  · left
    rw [if_neg c]
    refine ⟨?_, A, rfl, fA⟩
    rintro ⟨j2, q2, wy2, n2', z, z2⟩
    have : j = j2 := (nI_eq (by omega) (by have := z.1; omega)).mp z.2.1
    subst this
    exact c z2
