/-! ===== THE CLASS: pairs ===== -/
theorem ad_c (a b : Nat) : ad a b = ad b a := by unfold ad; split <;> split <;> omega
theorem dfP_c (v : Nat → Nat) (o wy a b : Nat) : dfP v o wy a b = dfP v o wy b a := by
  unfold dfP dsP
  rw [ad_c (v (o + 4 + 6 * b + (1 + 0))), ad_c (v (o + 4 + 6 * b + (1 + 1))), ad_c (v (o + 4 + 6 * b + (1 + 2)))]
theorem K_btw {M : q_M} {c d : Nat} {v : Nat → Nat} {o a b wy : Nat} (hw : wy < 3) (pc : PO M c (fun t => v (o + 4 + 6 * a + t))) (pd : PO M d (fun t => v (o + 4 + 6 * b + t))) (ha : ∀ x, x < 3 → v (o + 4 + 6 * a + (1 + x)) < 2 ^ 20) (hb : ∀ x, x < 3 → v (o + 4 + 6 * b + (1 + x)) < 2 ^ 20) : q_CL 41 [.inl (nI wy), .inr (.inr (some c)), .inr (.inr (some d))] M = some (some (.inr (.inl (lN (dfP v o wy a b)))), M) := by
  obtain ⟨_, _, f2, f3, f4, _⟩ := pc.f
  obtain ⟨_, _, g2, g3, g4, _⟩ := pd.f
  have p0 := ha 0 (by omega)
  have p1 := ha 1 (by omega)
  have p2 := ha 2 (by omega)
  have q0 := hb 0 (by omega)
  have q1 := hb 1 (by omega)
  have q2 := hb 2 (by omega)
  have a0 := ad_b p0 q0
  have a1 := ad_b p1 q1
  have a2 := ad_b p2 q2
  have e0 : (if 0 ≤ (nI (v (o + 4 + 6 * a + 1)) - nI (v (o + 4 + 6 * b + 1))) then (nI (v (o + 4 + 6 * a + 1)) - nI (v (o + 4 + 6 * b + 1))) else 0 - (nI (v (o + 4 + 6 * a + 1)) - nI (v (o + 4 + 6 * b + 1)))) = nI (ad (v (o + 4 + 6 * a + (1 + 0))) (v (o + 4 + 6 * b + (1 + 0)))) := abs_i (Nat.lt_trans p0 (by decide)) (Nat.lt_trans q0 (by decide))
  have e1 : (if 0 ≤ (nI (v (o + 4 + 6 * a + 2)) - nI (v (o + 4 + 6 * b + 2))) then (nI (v (o + 4 + 6 * a + 2)) - nI (v (o + 4 + 6 * b + 2))) else 0 - (nI (v (o + 4 + 6 * a + 2)) - nI (v (o + 4 + 6 * b + 2)))) = nI (ad (v (o + 4 + 6 * a + (1 + 1))) (v (o + 4 + 6 * b + (1 + 1)))) := abs_i (Nat.lt_trans p1 (by decide)) (Nat.lt_trans q1 (by decide))
  have e2 : (if 0 ≤ (nI (v (o + 4 + 6 * a + 3)) - nI (v (o + 4 + 6 * b + 3))) then (nI (v (o + 4 + 6 * a + 3)) - nI (v (o + 4 + 6 * b + 3))) else 0 - (nI (v (o + 4 + 6 * a + 3)) - nI (v (o + 4 + 6 * b + 3)))) = nI (ad (v (o + 4 + 6 * a + (1 + 2))) (v (o + 4 + 6 * b + (1 + 2)))) := abs_i (Nat.lt_trans p2 (by decide)) (Nat.lt_trans q2 (by decide))
  rw [C_X4_between]
  simp only [Option.bind_some, f2, f3, f4, g2, g3, g4, e0, e1, e2, nI_l (Nat.lt_trans a0 (by decide : 2 ^ 20 < 2 ^ 31)), nI_l (Nat.lt_trans a1 (by decide : 2 ^ 20 < 2 ^ 31)), nI_l (Nat.lt_trans a2 (by decide : 2 ^ 20 < 2 ^ 31)), K_dist hw a0 a1 a2, z_rL]
  rw [show dst wy (ad (v (o + 4 + 6 * a + (1 + 0))) (v (o + 4 + 6 * b + (1 + 0)))) (ad (v (o + 4 + 6 * a + (1 + 1))) (v (o + 4 + 6 * b + (1 + 1)))) (ad (v (o + 4 + 6 * a + (1 + 2))) (v (o + 4 + 6 * b + (1 + 2)))) = dfP v o wy b a from rfl, dfP_c]
def spU (i j a b : Nat) : Prop := (a < i ∧ b < i) ∨ (a = i ∧ b < j) ∨ (b = i ∧ a < j)
def BQ (M : q_M) (v : Nat → Nat) (o wy : Nat) (best : Option (Nat × Nat)) (r4 r5 : Option Nat) (l6 : Int64) : Prop := match best with
  | none => r4 = none ∧ r5 = none ∧ l6 = lN 9223372036854775807
  | some (a, b) => ∃ ca cb, r4 = some ca ∧ r5 = some cb ∧ PO M ca (fun t => v (o + 4 + 6 * a + t)) ∧ PO M cb (fun t => v (o + 4 + 6 * b + t)) ∧ l6 = lN (dfP v o wy a b)
theorem K_first {M : q_M} {c d ca cb : Nat} {P Q R S : Nat → Nat} (h1 : PO M c P) (h2 : PO M d Q) (h3 : PO M ca R) (h4 : PO M cb S) (b1 : P 0 < 2 ^ 31) (b2 : Q 0 < 2 ^ 31) (b3 : R 0 < 2 ^ 31) (b4 : S 0 < 2 ^ 31) : q_CL 38 [.inr (.inr (some c)), .inr (.inr (some d)), .inr (.inr (some ca)), .inr (.inr (some cb))] M = some (some (.inl (if P 0 < R 0 ∨ (P 0 = R 0 ∧ Q 0 < S 0) then nI 1 else nI 0)), M) := by
  have o0 : (nI 0 = 0 ∨ nI 0 = 1) := Or.inl nI_0
  have o1 : (nI 1 = 0 ∨ nI 1 = 1) := Or.inr rfl
  rw [C_X4_comesFirst, if_neg (by simp), if_neg (by simp)]
  simp only [Option.bind_some, h1.f.1, h2.f.1, h3.f.1, h4.f.1, if_pos o0, if_pos o1]
  by_cases a : P 0 < R 0
  · rw [if_pos (nI_lt a b3), if_pos (Or.inl a)]
  rw [if_neg (nI_nlt (by omega) b1)]
  by_cases b : P 0 = R 0
  · rw [if_pos (by rw [b])]
    by_cases c : Q 0 < S 0
    · rw [if_neg (nI_ge c b4), if_pos (Or.inr ⟨b, c⟩)]
    · rw [if_pos (nI_le (by omega) b2), if_neg (by omega)]
  · rw [if_neg (fun z => b ((nI_eq b1 b3).mp z)), if_neg (by omega)]
/-- of pairs that have been seen, one more -/
theorem PBs_up {v : Nat → Nat} {o wy i j A B : Nat} (hab : (A = i ∧ B = j) ∨ (A = j ∧ B = i)) (hji : j < i) (nm : v (o + 4 + 6 * A) < v (o + 4 + 6 * B)) {best : Option (Nat × Nat)} (h : PBs v o wy (spU i j) best) (hl : ∀ a b, best = some (a, b) → lsP v o wy A B a b) : PBs v o wy (spU i (j + 1)) (some (A, B)) := by
  refine ⟨by unfold spU; omega, nm, fun c d s l ne => ?_⟩
  have nd : ¬ (c = B ∧ d = A) := fun z => by rw [z.1, z.2] at l; omega
  have s' : spU i j c d := by unfold spU at s ⊢; omega
  cases best with
  | none => exact absurd l (h c d s')
  | some ab =>
    obtain ⟨a, b⟩ := ab
    obtain ⟨h1, h2, h3⟩ := h
    have hl := hl a b rfl
    by_cases q : c = a ∧ d = b
    · obtain ⟨rfl, rfl⟩ := q; exact hl
    · have := h3 c d s' l q
      unfold lsP at *
      omega
theorem PBs_kp {v : Nat → Nat} {o wy i j A B a b : Nat} (hab : (A = i ∧ B = j) ∨ (A = j ∧ B = i)) (hji : j < i) (nm : v (o + 4 + 6 * A) < v (o + 4 + 6 * B)) (h : PBs v o wy (spU i j) (some (a, b))) (hl : lsP v o wy a b A B) : PBs v o wy (spU i (j + 1)) (some (a, b)) := by
  obtain ⟨h1, h2, h3⟩ := h
  refine ⟨by unfold spU at h1 ⊢; omega, h2, fun c d s l ne => ?_⟩
  by_cases q : c = A ∧ d = B
  · obtain ⟨rfl, rfl⟩ := q; exact hl
  · have nd : ¬ (c = B ∧ d = A) := fun z => by rw [z.1, z.2] at l; omega
    exact h3 c d (by unfold spU at s ⊢; omega) l ne
/-- the pair (i, j) is weighed: q is the lesser, or p -/
theorem K_c134 {M : q_M} {r f i j ci cj : Nat} {v : Nat → Nat} {ic o wy : Nat} (sw : SW v ic o) (hc : okI v ic) (hj : j < i) (hi : i < v (o + 2)) (pi : PO M ci (fun t => v (o + 4 + 6 * i + t))) (pj : PO M cj (fun t => v (o + 4 + 6 * j + t))) {best : Option (Nat × Nat)} {r4 r5 : Option Nat} {l6 l12 : Int64} (bq : BQ M v o wy best r4 r5 l6) (pb : PBs v o wy (spU i j) best) (d7 d13 d15 d16 d17 : Option q_V) : ∃ best' r4' r5' l6' e7 e11 e12 e13 e14 e15 e16 e17, BQ M v o wy best' r4' r5' l6' ∧ PBs v o wy (spU i (j + 1)) best' ∧ q_RL T_X4_readClosest (134, [some (.inr (.inr (some 39))), some (.inr (.inr (some r))), some (.inl (nI wy)), some (.inr (.inr (some f))), some (.inr (.inr r4)), some (.inr (.inr r5)), some (.inr (.inl l6)), d7, some (.inl (nI i)), some (.inr (.inr (some ci))), some (.inl (nI j)), some (.inr (.inr (some cj))), some (.inr (.inl l12)), d13, some (.inr (.inl (lN (dfP v o wy i j)))), d15, d16, d17], [.inr (.inr (if v (o + 4 + 6 * j) ≤ v (o + 4 + 6 * i) then some cj else some ci))], M) = q_RL T_X4_readClosest (47, [some (.inr (.inr (some 39))), some (.inr (.inr (some r))), some (.inl (nI wy)), some (.inr (.inr (some f))), some (.inr (.inr r4')), some (.inr (.inr r5')), some (.inr (.inl l6')), e7, some (.inl (nI i)), some (.inr (.inr (some ci))), some (.inl (nI (j + 1))), e11, e12, e13, e14, e15, e16, e17], [], M) := by
  have s1 := sw.1
  have bd : ∀ p, p < v (o + 2) → v (o + 4 + 6 * p) < 2 ^ 31 := fun p hp => by have := (sw.2.2.2.2.1 p hp).1; omega
  have d42 : ∀ a b, a < v (o + 2) → b < v (o + 2) → dfP v o wy a b < 2 ^ 42 := fun a b ha hb => dsP_b (fun x hx => sw.pt hc hb hx) (fun x hx => sw.pt hc ha hx)
  have nij : v (o + 4 + 6 * j) ≠ v (o + 4 + 6 * i) := (sw.2.2.2.2.2 j i hj hi).1
  have fi : q_fI M 2 ci 0 = some (nI (v (o + 4 + 6 * i))) := pi.f.1
  have fj : q_fI M 2 cj 0 = some (nI (v (o + 4 + 6 * j))) := pj.f.1
  have bi := bd i hi
  have bj := bd j (by omega)
  have far := d42 i j hi (by omega)
  -- in terms of the pair (A, B) and its cells
  have step : ∀ A B cA cB, ((A = i ∧ B = j) ∨ (A = j ∧ B = i)) → v (o + 4 + 6 * A) < v (o + 4 + 6 * B) → PO M cA (fun t => v (o + 4 + 6 * A + t)) → PO M cB (fun t => v (o + 4 + 6 * B + t)) → ∃ best' r4' r5' l6', BQ M v o wy best' r4' r5' l6' ∧ PBs v o wy (spU i (j + 1)) best' ∧ ((lN (dfP v o wy i j) < l6 ∧ r4' = some cA ∧ r5' = some cB ∧ l6' = lN (dfP v o wy i j)) ∨ (¬ lN (dfP v o wy i j) < l6 ∧ ¬ lN (dfP v o wy i j) = l6 ∧ r4' = r4 ∧ r5' = r5 ∧ l6' = l6) ∨ (¬ lN (dfP v o wy i j) < l6 ∧ lN (dfP v o wy i j) = l6 ∧ ((q_CL 38 [.inr (.inr (some cA)), .inr (.inr (some cB)), .inr (.inr r4), .inr (.inr r5)] M = some (some (.inl (nI 1)), M) ∧ r4' = some cA ∧ r5' = some cB ∧ l6' = lN (dfP v o wy i j)) ∨ (q_CL 38 [.inr (.inr (some cA)), .inr (.inr (some cB)), .inr (.inr r4), .inr (.inr r5)] M = some (some (.inl (nI 0)), M) ∧ r4' = r4 ∧ r5' = r5 ∧ l6' = l6)))) := fun A B cA cB hab nm pA pB => by
    have eAB : dfP v o wy A B = dfP v o wy i j := by
      rcases hab with ⟨rfl, rfl⟩ | ⟨rfl, rfl⟩
      · rfl
      · exact dfP_c _ _ _ _ _
    have hA : A < v (o + 2) := by omega
    have hB : B < v (o + 2) := by omega
    have upd : BQ M v o wy (some (A, B)) (some cA) (some cB) (lN (dfP v o wy i j)) := ⟨cA, cB, rfl, rfl, pA, pB, by rw [eAB]⟩
    cases best with
    | none =>
      obtain ⟨rfl, rfl, rfl⟩ := bq
      refine ⟨some (A, B), some cA, some cB, _, upd, PBs_up hab hj nm pb (fun a b z => by cases z), Or.inl ⟨?_, rfl, rfl, rfl⟩⟩
      exact (pk_lLT (by omega) (by omega)).mpr (by omega)
    | some ab =>
      obtain ⟨a, b⟩ := ab
      obtain ⟨ca, cb, rfl, rfl, pa, pb', rfl⟩ := bq
      have sp := pb.1
      have ha : a < v (o + 2) := by unfold spU at sp; omega
      have hb : b < v (o + 2) := by unfold spU at sp; omega
      have fab := d42 a b ha hb
      have cmp1 : lN (dfP v o wy i j) < lN (dfP v o wy a b) ↔ dfP v o wy i j < dfP v o wy a b := pk_lLT (by omega) (by omega)
      have cmp2 : lN (dfP v o wy i j) = lN (dfP v o wy a b) ↔ dfP v o wy i j = dfP v o wy a b := pk_lEQ (by omega) (by omega)
      by_cases c1 : dfP v o wy i j < dfP v o wy a b
      · exact ⟨some (A, B), some cA, some cB, _, upd, PBs_up hab hj nm pb (fun a' b' z => by
          injection z with z; injection z with z1 z2; rw [← z1, ← z2]; unfold lsP; rw [eAB]; exact Or.inl c1), Or.inl ⟨cmp1.mpr c1, rfl, rfl, rfl⟩⟩
      by_cases c2 : dfP v o wy i j = dfP v o wy a b
      rotate_left
      · exact ⟨some (a, b), some ca, some cb, _, ⟨ca, cb, rfl, rfl, pa, pb', rfl⟩, PBs_kp hab hj nm pb (by unfold lsP; rw [eAB]; omega), Or.inr (Or.inl ⟨fun z => c1 (cmp1.mp z), fun z => c2 (cmp2.mp z), rfl, rfl, rfl⟩)⟩
      have kf := K_first pA pB pa pb' (bd A hA) (bd B hB) (bd a ha) (bd b hb)
      by_cases c3 : v (o + 4 + 6 * A) < v (o + 4 + 6 * a) ∨ (v (o + 4 + 6 * A) = v (o + 4 + 6 * a) ∧ v (o + 4 + 6 * B) < v (o + 4 + 6 * b))
      · rw [if_pos (show (fun t => v (o + 4 + 6 * A + t)) 0 < (fun t => v (o + 4 + 6 * a + t)) 0 ∨ ((fun t => v (o + 4 + 6 * A + t)) 0 = (fun t => v (o + 4 + 6 * a + t)) 0 ∧ (fun t => v (o + 4 + 6 * B + t)) 0 < (fun t => v (o + 4 + 6 * b + t)) 0) from c3)] at kf
        exact ⟨some (A, B), some cA, some cB, _, upd, PBs_up hab hj nm pb (fun a' b' z => by
          injection z with z; injection z with z1 z2; rw [← z1, ← z2]; unfold lsP; rw [eAB]; exact Or.inr ⟨c2, c3⟩), Or.inr (Or.inr ⟨fun z => c1 (cmp1.mp z), cmp2.mpr c2, Or.inl ⟨kf, rfl, rfl, rfl⟩⟩)⟩
      · rw [if_neg (show ¬ ((fun t => v (o + 4 + 6 * A + t)) 0 < (fun t => v (o + 4 + 6 * a + t)) 0 ∨ ((fun t => v (o + 4 + 6 * A + t)) 0 = (fun t => v (o + 4 + 6 * a + t)) 0 ∧ (fun t => v (o + 4 + 6 * B + t)) 0 < (fun t => v (o + 4 + 6 * b + t)) 0)) from c3)] at kf
        have nd : ∀ p q, p < v (o + 2) → q < v (o + 2) → v (o + 4 + 6 * p) = v (o + 4 + 6 * q) → p = q := fun p q hp hq e => by
          rcases Nat.lt_trichotomy p q with z | z | z
          · exact absurd e (sw.2.2.2.2.2 p q z hq).1
          · exact z
          · exact absurd e.symm (sw.2.2.2.2.2 q p z hp).1
        have ne : ¬ (A = a ∧ B = b) := fun z => by unfold spU at sp; omega
        have nn : ¬ (v (o + 4 + 6 * A) = v (o + 4 + 6 * a) ∧ v (o + 4 + 6 * B) = v (o + 4 + 6 * b)) := fun z => ne ⟨nd A a hA ha z.1, nd B b hB hb z.2⟩
        exact ⟨some (a, b), some ca, some cb, _, ⟨ca, cb, rfl, rfl, pa, pb', rfl⟩, PBs_kp hab hj nm pb (by unfold lsP; rw [eAB]; omega), Or.inr (Or.inr ⟨fun z => c1 (cmp1.mp z), cmp2.mpr c2, Or.inr ⟨kf, rfl, rfl, rfl⟩⟩)⟩
  rw [E_X4_readClosest_134]
  simp only [Option.bind_some, fi, fj, lg_cmp_lt, lg_cmp_eq, nI_1]
  by_cases cn : v (o + 4 + 6 * j) ≤ v (o + 4 + 6 * i)
  · rw [if_pos cn]
    obtain ⟨best', r4', r5', l6', y1, y2, y3⟩ := step j i cj ci (Or.inr ⟨rfl, rfl⟩) (by omega) pj pi
    simp only [if_pos (nI_le cn bi)]
    rcases y3 with ⟨z1, rfl, rfl, rfl⟩ | ⟨z1, z2, rfl, rfl, rfl⟩ | ⟨z1, z2, ⟨z3, rfl, rfl, rfl⟩ | ⟨z3, rfl, rfl, rfl⟩⟩
    · rw [if_pos z1]
      exact ⟨best', _, _, _, _, _, _, _, _, _, _, _, y1, y2, rfl⟩
    · rw [if_neg z1, if_neg z2]
      exact ⟨best', _, _, _, _, _, _, _, _, _, _, _, y1, y2, rfl⟩
    · rw [if_neg z1, if_pos z2, z3]
      simp only [z_rI, Option.bind_some]
      rw [if_neg (show ¬ nI 1 = 0 by decide +kernel)]
      exact ⟨best', _, _, _, _, _, _, _, _, _, _, _, y1, y2, rfl⟩
    · rw [if_neg z1, if_pos z2, z3]
      simp only [z_rI, Option.bind_some]
      rw [if_pos nI_0]
      exact ⟨best', _, _, _, _, _, _, _, _, _, _, _, y1, y2, rfl⟩
  · rw [if_neg cn]
    obtain ⟨best', r4', r5', l6', y1, y2, y3⟩ := step i j ci cj (Or.inl ⟨rfl, rfl⟩) (by omega) pi pj
    simp only [if_neg (nI_ge (show v (o + 4 + 6 * i) < v (o + 4 + 6 * j) by omega) bj)]
    rcases y3 with ⟨z1, rfl, rfl, rfl⟩ | ⟨z1, z2, rfl, rfl, rfl⟩ | ⟨z1, z2, ⟨z3, rfl, rfl, rfl⟩ | ⟨z3, rfl, rfl, rfl⟩⟩
    · rw [if_pos z1]
      exact ⟨best', _, _, _, _, _, _, _, _, _, _, _, y1, y2, rfl⟩
    · rw [if_neg z1, if_neg z2]
      exact ⟨best', _, _, _, _, _, _, _, _, _, _, _, y1, y2, rfl⟩
    · rw [if_neg z1, if_pos z2, z3]
      simp only [z_rI, Option.bind_some]
      rw [if_neg (show ¬ nI 1 = 0 by decide +kernel)]
      exact ⟨best', _, _, _, _, _, _, _, _, _, _, _, y1, y2, rfl⟩
    · rw [if_neg z1, if_pos z2, z3]
      simp only [z_rI, Option.bind_some]
      rw [if_pos nI_0]
      exact ⟨best', _, _, _, _, _, _, _, _, _, _, _, y1, y2, rfl⟩
