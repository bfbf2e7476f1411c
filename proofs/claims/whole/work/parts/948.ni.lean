/-! ===== THE REFERENCE: witness ===== -/
def wtB (rd : Nat → Bool) (f : Nat → Nat) (x : Nat) : Int32 := if x % 9 = 0 then byI (nI (bN (rd (x / 9)))) else byI (Int64.toInt32 (lN (f (x / 9)) >>> (Int32.toInt64 (nI (56 - 8 * (x % 9 - 1))) &&& 63)))
def sc3 (a k : Nat) : Prop := sc2 a k ∨ (a = 49 ∧ k = 20) ∨ a = 62
def noL (_a _k : Nat) : Prop := False
theorem FG.of2 {A : Nat → Prop} {M M1 : q_M} (f : F2 A M M1) : FG sc3 (fun a _ => A a) M M1 := (FG.f2 f).wk (fun _ _ z => Or.inl z) (fun _ _ z => z)
theorem FG.nl {P : Nat → Nat → Prop} {M M1 : q_M} (f : FG P noL M M1) (a k : Nat) : gL M1 a k = gL M a k := f.2.2.2.2 a k (fun z => z)
theorem FG.ri {P : Nat → Nat → Prop} {M M1 : q_M} (f : FG P noL M M1) {v : Nat → Nat} (r : RI M v) : RI M1 v := fun i h1 h2 => by rw [f.nl]; exact r i h1 h2
theorem FG.wi {P : Nat → Nat → Prop} {M M1 : q_M} (f : FG P noL M M1) {w : Nat → Int32} (r : WI M w) : WI M1 w := fun j hj => by rw [f.nl]; exact r j hj
theorem FG.fr {P Q : Nat → Nat → Prop} {M M1 : q_M} (f : fr P M M1) (h : ∀ a k, P a k → Q a k) : FG Q noL M M1 := ⟨f.1, f.2.1, by rw [f.2.2.1], fun a k q => f.2.2.2 a k fun z => q (h a k z), fun a k _ => f.gl a k⟩
theorem R_wi97 {k P fk : Nat} (hk : k < P) (hP : P ≤ 300) {rd : Nat → Bool} {f : Nat → Nat} (ef : f k = fk) {x1 x2 x3 x4 x5 x6 : Int32} : ∀ m i, i + m = 8 → ∀ {M : q_M}, SH M → (∀ x, x < 9 * k + 1 + i → gI M 62 x = wtB rd f x) → ∀ d9, ∃ M1 d9', q_RL T_X12_witness (97, [some (.inr (.inr (some 49))), some (.inl x1), some (.inl x2), some (.inl x3), some (.inl x4), some (.inl x5), some (.inl x6), some (.inl (nI k)), some (.inr (.inl (lN fk))), d9, some (.inl (nI i))], [], M) = q_RL T_X12_witness (49, [some (.inr (.inr (some 49))), some (.inl x1), some (.inl x2), some (.inl x3), some (.inl x4), some (.inl x5), some (.inl x6), some (.inl (nI (k + 1))), some (.inr (.inl (lN fk))), d9', some (.inl (nI 8))], [], M1) ∧ FG (fun a _ => a = 62) noL M M1 ∧ ∀ x, x < 9 * (k + 1) → gI M1 62 x = wtB rd f x := by
  intro m
  induction m with
  | zero =>
    intro i hi M h e d9
    refine ⟨M, d9, ?_, FG.rf _ _ M, fun x hx => e x (by omega)⟩
    rw [E_X12_witness_97, if_pos (nI_le (by omega) (by omega)), nI_1, show i = 8 by omega]
  | succ m ih =>
    intro i hi M h e d9
    obtain ⟨M1, d9', p1, p2, p3⟩ := ih (i + 1) (by omega) (M := stI M 62 (9 * k + 1 + i) (byI (Int64.toInt32 (lN fk >>> (Int32.toInt64 (nI (56 - 8 * i)) &&& 63))))) h (fun x hx => by
      by_cases q : x = 9 * k + 1 + i
      · rw [q, gI_self]
        unfold wtB
        rw [if_neg (by omega), show (9 * k + 1 + i) / 9 = k by omega, ef, show (9 * k + 1 + i) % 9 - 1 = i by omega]
      · rw [gI_oth (by omega)]; exact e x (by omega)) (q_kill d9)
    refine ⟨M1, d9', ?_, ((FG.rf (fun a _ => a = 62) noL M).sI (k := 9 * k + 1 + i) rfl).tr p2, p3⟩
    rw [← p1, E_X12_witness_97, if_neg (nI_ge (by omega) (by omega))]
    simp only [m_ou h, Option.bind_some, pk_mul, nI_add, pk_sub (show 8 * i ≤ 56 by omega), m_b13 h (show 9 * k + 1 + i < 2700 by omega), nI_1]
    rfl
theorem R_wi49 {v : Nat → Nat} {i o : Nat} (s : SW v i o) (hc : okI v i) (ho : 1100 ≤ o ∧ o + 2110 ≤ 60180) {g : Nat → Nat} {wy : Nat} (hw : wy < 3) {rd : Nat → Bool} {x1 x2 x3 x4 x6 : Int32} : ∀ m k, k + m = v (o + 3) → ∀ {M : q_M}, SH M → RI M v → gI M 49 13 = nI o → HI M g → TI M 61 rd → gI M 49 20 = nI (9 * v (o + 3)) → (∀ x, x < 9 * k → gI M 62 x = wtB rd (bxF v o g wy) x) → ∀ d8 d9 d10, ∃ M1, q_RL T_X12_witness (49, [some (.inr (.inr (some 49))), some (.inl x1), some (.inl x2), some (.inl x3), some (.inl x4), some (.inl (nI wy)), some (.inl x6), some (.inl (nI k)), d8, d9, d10], [], M) = some (some (.inl (nI (9 * v (o + 3)))), M1) ∧ FG sc3 noL M M1 ∧ gI M1 49 20 = nI (9 * v (o + 3)) ∧ ∀ x, x < 9 * v (o + 3) → gI M1 62 x = wtB rd (bxF v o g wy) x := by
  have s1 := s.1
  have s2 := s.2.1
  intro m
  induction m with
  | zero =>
    intro k hk M h r eo hh t2 ew e d8 d9 d10
    refine ⟨M, ?_, FG.rf _ _ M, ew, fun x hx => e x (by omega)⟩
    rw [E_X12_witness_49]
    simp only [m_sel h, Option.bind_some, (R_fld h r ho eo).2.1, z_rI]
    rw [if_pos (nI_le (by omega) (by omega))]
    simp only [m_fI h, Option.bind_some, ew]
  | succ m ih =>
    intro k hk M h r eo hh t2 ew e d8 d9 d10
    have hk2 : k < v (o + 3) := by omega
    have hA : SH (stI M 62 (9 * k) (byI (nI (bN (rd k))))) := h
    have rA : RI (stI M 62 (9 * k) (byI (nI (bN (rd k))))) v := r
    have eA : gI (stI M 62 (9 * k) (byI (nI (bN (rd k))))) 49 13 = nI o := (gI_oth (by omega)).trans eo
    have hhA : HI (stI M 62 (9 * k) (byI (nI (bN (rd k))))) g := fun a ha => ⟨(gI_oth (by omega)).trans (hh a ha).1, (hh a ha).2⟩
    obtain ⟨B, b1, b2⟩ := R_bxF s hc hA rA ho eA hhA hw hk2
    have hB := b2.sh hA
    have kB : ∀ a x, ¬ (a = 55 ∨ a = 56) → ¬ (a = 62 ∧ x = 9 * k) → gI B a x = gI M a x := fun a x n1 n2 => (b2.2.2.2 a x n1).trans (gI_oth n2)
    obtain ⟨C, d9', c1, c2, c3⟩ := R_wi97 (k := k) (P := v (o + 3)) (fk := bxF v o g wy k) hk2 (by omega) (rd := rd) (f := bxF v o g wy) rfl (x1 := x1) (x2 := x2) (x3 := x3) (x4 := x4) (x5 := nI wy) (x6 := x6) 8 0 (by omega) hB (fun x hx => by
      by_cases q : x = 9 * k
      · rw [q, b2.2.2.2 62 _ (by unfold b56; omega), gI_self]
        unfold wtB
        rw [if_pos (by omega), show 9 * k / 9 = k by omega]
      · rw [kB 62 x (by omega) (by omega)]; exact e x (by omega)) none
    have kC : ∀ a x, ¬ (a = 55 ∨ a = 56) → ¬ a = 62 → gI C a x = gI M a x := fun a x n1 n2 => (c2.2.2.2.1 a x n2).trans (kB a x n1 (by omega))
    obtain ⟨D, d1, d2, d3, d4⟩ := ih (k + 1) (by omega) (c2.sh hB) (c2.ri (b2.ri rA)) ((kC 49 13 (by omega) (by omega)).trans eo) (fun a ha => ⟨(kC 59 a (by omega) (by omega)).trans (hh a ha).1, (hh a ha).2⟩) (fun a ha => (kC 61 a (by omega) (by omega)).trans (t2 a ha)) ((kC 49 20 (by omega) (by omega)).trans ew) c3 (some (.inr (.inl (lN (bxF v o g wy k))))) d9' (some (.inl (nI 8)))
    refine ⟨D, ?_, (((FG.rf sc3 noL M).sI (show sc3 62 (9 * k) from Or.inr (Or.inr rfl))).tr (FG.fr b2 fun a k z => by unfold b56 at z; unfold sc3 sc2 scr; omega)).tr ((c2.wk (fun a k z => Or.inr (Or.inr z)) (fun _ _ z => z)).tr d2), d3, d4⟩
    rw [← d1, ← c1, E_X12_witness_49]
    simp only [m_sel h, Option.bind_some, (R_fld h r ho eo).2.1, z_rI]
    rw [if_neg (nI_ge hk2 (by omega))]
    simp only [m_ou h, m_rd h, Option.bind_some, m_a16 h (Or.inr rfl) (show k < 300 by omega), t2 k (by omega), pk_mul, m_b13 h (show 9 * k < 2700 by omega)]
    cases er : rd k with
    | false =>
      rw [er] at hA b1
      rw [if_pos (bN0.mpr rfl)]
      have hA' : SH (stI M 62 (9 * k) (byI (nI 0))) := h
      have b1' : q_CL 208 [.inr (.inr (some 49)), .inl (nI k), .inl (nI wy)] (stI M 62 (9 * k) (Int8.toInt32 (Int32.toInt8 (Int8.toInt32 (Int32.toInt8 (nI 0)))))) = _ := b1
      have hA2 : SH (stI M 62 (9 * k) (Int8.toInt32 (Int32.toInt8 (Int8.toInt32 (Int32.toInt8 (nI 0)))))) := h
      simp only [m_sel hA2, Option.bind_some, b1', z_rL]
    | true =>
      rw [er] at hA b1
      rw [if_neg (fun z => by have := bN0.mp z; simp at this)]
      have b1' : q_CL 208 [.inr (.inr (some 49)), .inl (nI k), .inl (nI wy)] (stI M 62 (9 * k) (Int8.toInt32 (Int32.toInt8 (Int8.toInt32 (Int32.toInt8 (nI 1)))))) = _ := b1
      have hA2 : SH (stI M 62 (9 * k) (Int8.toInt32 (Int32.toInt8 (Int8.toInt32 (Int32.toInt8 (nI 1)))))) := h
      simp only [m_sel hA2, Option.bind_some, b1', z_rL]
theorem R_witness {v : Nat → Nat} (s : SV v) {M : q_M} (h : SH M) (r : RI M v) (x1 x2 x3 x4 x5 x6 : Int32) : (¬ (∃ j q wy n, askI v x1 x2 x3 x4 x5 x6 j q wy n) ∧ ∃ M1, q_CL 224 [.inr (.inr (some 49)), .inl x1, .inl x2, .inl x3, .inl x4, .inl x5, .inl x6] M = some (some (.inl (-1)), M1) ∧ FO (fun _ => False) M M1) ∨ ∃ j q wy n t rd M1, askI v x1 x2 x3 x4 x5 x6 j q wy n ∧ rdF v (oS j) q wy n t rd ∧ q_CL 224 [.inr (.inr (some 49)), .inl x1, .inl x2, .inl x3, .inl x4, .inl x5, .inl x6] M = some (some (.inl (nI (9 * v (oS j + 3)))), M1) ∧ FG sc3 noL M M1 ∧ XI M1 (wtB rd (bxF v (oS j) q wy)) (9 * v (oS j + 3)) := by
  rw [C_X12_witness]
  simp only [m_sel h, Option.bind_some]
  obtain ⟨A, fA, ⟨hx, e⟩ | ⟨j, q, wy, n, a, eo, e⟩⟩ := R_askI s h r x1 x2 x3 x4 x5 x6
  · left
    refine ⟨hx, A, ?_, fA⟩
    rw [e]; rfl
  right
  have a' := a
  obtain ⟨hj, rfl, op, rfl, rfl, rfl, hq, rfl, hwy, rfl, n1, n2⟩ := a
  have ob := oS_b hj
  have ho : 1100 ≤ oS j ∧ oS j + 2110 ≤ 60180 := by omega
  obtain ⟨i8, hc⟩ := s.i8 hj op
  have sw := s.sw hj op
  have s1 := sw.1
  have s2 := sw.2.1
  have hA := fA.sh h
  have rA := fA.ri (by simp) r
  have hg : ∀ b, b < 3 → q b < 2 ^ 20 := fun b hb => by have := hq b hb; have := room_le hc hb; omega
  rw [e]
  simp only [z_rI, Option.bind_some]
  rw [if_neg (show ¬ nI 1 = 0 by decide +kernel)]
  obtain ⟨B, b1, b2, b3⟩ := R_stands hA hg
  have hB := b2.sh hA
  have eB : gI B 49 13 = nI (oS j) := (b2.2.2.2 49 13 (by omega)).trans eo
  obtain ⟨t, rd, C, c1, c2, c3, c4, c5⟩ := R_reads sw hc ho hwy ⟨n1, n2⟩ hB (b2.ri rA) eB b3
  have hC := c4.sh hB
  have rC := c4.ri (b2.ri rA)
  have eC : gI C 49 13 = nI (oS j) := (c4.2.2.2 49 13 (by unfold frd; omega)).trans eB
  have hD : SH (stI C 49 20 (nI (9 * v (oS j + 3)))) := hC
  obtain ⟨E, k1, k2, k3, k4⟩ := R_wi49 sw hc ho hwy (rd := rd) (g := q) (x1 := nI j) (x2 := nI (q 0)) (x3 := nI (q 1)) (x4 := nI (q 2)) (x6 := nI n) (v (oS j + 3)) 0 (by omega) hD rC ((gI_oth (by omega)).trans eC) (fun b hb => ⟨(gI_oth (by omega)).trans ((c4.2.2.2 59 b (by unfold frd; omega)).trans (b3 b hb).1), hg b hb⟩) (fun b hb => (gI_oth (by omega)).trans (c3 b hb)) gI_self (fun x hx => by omega) none none none
  refine ⟨j, q, wy, n, t, rd, E, a', c1, ?_, ?_, k3, by omega, k4⟩
  · simp only [m_sel hA, Option.bind_some, b1, z_rV, m_sel hB, c5, z_rI, m_sel hC, (R_fld hC rC ho eC).2.1, pk_mul, m_sI hC, k1]
  · have f1 : FG sc3 noL M A := (FG.of2 (F2.fo fA)).wk (fun _ _ z => z) (fun _ _ z => z)
    exact (((f1.tr (FG.fr b2 fun a k z => Or.inl (Or.inr (Or.inr (Or.inl z))))).tr (FG.fr c4 fun a k z => by unfold frd at z; unfold sc3 sc2 scr; omega)).sI (show sc3 49 20 from Or.inr (Or.inl ⟨rfl, rfl⟩))).tr k2
