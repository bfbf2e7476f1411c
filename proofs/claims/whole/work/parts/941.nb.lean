/-! ===== THE REFERENCE: what is found ===== -/
/-- frames of the searches: scratch, the slice's begin, the place, the marks -/
def sc2 (a k : Nat) : Prop := scr a k ∨ (a = 49 ∧ k = 13) ∨ a = 59 ∨ a = 60 ∨ a = 61
def F2 (A : Nat → Prop) (M M1 : q_M) : Prop := M1.1 = M.1 ∧ M1.2.1 = M.2.1 ∧ M1.2.2.2.2 = M.2.2.2.2 ∧ (∀ a k, ¬ sc2 a k → gI M1 a k = gI M a k) ∧ ∀ a k, ¬ A a → gL M1 a k = gL M a k
theorem F2.rf (A : Nat → Prop) (M : q_M) : F2 A M M := ⟨rfl, rfl, rfl, fun _ _ _ => rfl, fun _ _ _ => rfl⟩
theorem F2.tr {A : Nat → Prop} {M M1 M2 : q_M} (a : F2 A M M1) (b : F2 A M1 M2) : F2 A M M2 := ⟨b.1.trans a.1, b.2.1.trans a.2.1, b.2.2.1.trans a.2.2.1, fun x k h => (b.2.2.2.1 x k h).trans (a.2.2.2.1 x k h), fun x k h => (b.2.2.2.2 x k h).trans (a.2.2.2.2 x k h)⟩
theorem F2.fo {A : Nat → Prop} {M M1 : q_M} (f : FO A M M1) : F2 A M M1 := ⟨f.1, f.2.1, f.2.2.1, fun a k h => f.2.2.2.1 a k (fun z => h (Or.inl z)) (fun z => h (Or.inr (Or.inl z))), f.2.2.2.2⟩
theorem F2.fl {A : Nat → Prop} {M M1 : q_M} (f : FL A M M1) : F2 A M M1 := F2.fo (FO.of f)
theorem F2.fr {A : Nat → Prop} {P : Nat → Nat → Prop} {M M1 : q_M} (f : fr P M M1) (h : ∀ a k, P a k → sc2 a k) : F2 A M M1 := ⟨f.1, f.2.1, by rw [f.2.2.1], fun a k q => f.2.2.2 a k fun z => q (h a k z), fun a k _ => f.gl a k⟩
theorem F2.wk {A B : Nat → Prop} {M M1 : q_M} (f : F2 A M M1) (h : ∀ a, A a → B a) : F2 B M M1 := ⟨f.1, f.2.1, f.2.2.1, f.2.2.2.1, fun a k q => f.2.2.2.2 a k fun p => q (h a p)⟩
theorem F2.sh {A : Nat → Prop} {M M1 : q_M} (f : F2 A M M1) (h : SH M) : SH M1 := by
  obtain ⟨a, b, c, _⟩ := f
  unfold SH gR gN at *
  rw [a, b, c]; exact h
theorem F2.ri {A : Nat → Prop} {M M1 : q_M} (f : F2 A M M1) (h : ¬ A 50) {v : Nat → Nat} (r : RI M v) : RI M1 v := by
  intro i h1 h2
  rw [f.2.2.2.2 50 i h]; exact r i h1 h2
theorem F2.wi {A : Nat → Prop} {M M1 : q_M} (f : F2 A M M1) (h : ¬ A 50) {w : Nat → Int32} (r : WI M w) : WI M1 w := fun j hj => by rw [f.2.2.2.2 50 _ h]; exact r j hj
theorem F2.st {A : Nat → Prop} {M M1 : q_M} (f : F2 A M M1) {a k : Nat} {x : Int64} (h : A a) : F2 A M (stL M1 a k x) := by
  refine ⟨f.1, f.2.1, f.2.2.1, f.2.2.2.1, fun b j hb => ?_⟩
  rw [gL_stL]
  by_cases e : b = a ∧ j = k
  · obtain ⟨rfl, rfl⟩ := e
    exact absurd h hb
  · rw [if_neg e]; exact f.2.2.2.2 b j hb
theorem F2.sI {A : Nat → Prop} {M M1 : q_M} (f : F2 A M M1) {a k : Nat} {x : Int32} (h : sc2 a k) : F2 A M (stI M1 a k x) := by
  refine ⟨f.1, f.2.1, f.2.2.1, fun b j hb => ?_, f.2.2.2.2⟩
  rw [gI_stI]
  by_cases e : b = a ∧ j = k
  · obtain ⟨rfl, rfl⟩ := e
    exact absurd h hb
  · rw [if_neg e]; exact f.2.2.2.1 b j hb
/-- nothing is found yet, rd pages are read -/
def fd0 (v : Nat → Nat) (rd : Nat) : Nat → Nat := va_up (va_up (va_up v 457 0) 458 0) 459 rd
/-- point p is found, at d -/
def fdS (v : Nat → Nat) (o p d : Nat) : Nat → Nat := va_up (va_up (va_up (va_up v (460 + 2 * v 457) (v (o + 4 + 6 * p))) (460 + 2 * v 457 + 1) d) 457 (v 457 + 1)) 458 (v 458 + v (o + 4 + 6 * p + 4))
def fdN (o : Nat) (e d : Nat → Nat) (v : Nat → Nat) : Nat → Nat → Nat
  | 0 => v
  | n + 1 => fdS (fdN o e d v n) o (e n) (d n)
theorem fd0_x {v : Nat → Nat} {rd x : Nat} (h : x < 457 ∨ 460 ≤ x) : fd0 v rd x = v x := by
  unfold fd0
  rw [va_up_ne _ _ (by omega), va_up_ne _ _ (by omega), va_up_ne _ _ (by omega)]
theorem fd0_7 (v : Nat → Nat) (rd : Nat) : fd0 v rd 457 = 0 ∧ fd0 v rd 458 = 0 ∧ fd0 v rd 459 = rd := by
  unfold fd0
  refine ⟨?_, ?_, va_up_self _ _ _⟩
  · rw [va_up_ne _ _ (by omega), va_up_ne _ _ (by omega), va_up_self]
  · rw [va_up_ne _ _ (by omega), va_up_self]
theorem fdS_x {v : Nat → Nat} {o p d x : Nat} (hx : x ≠ 457 ∧ x ≠ 458) (h : x < 460 + 2 * v 457 ∨ 460 + 2 * v 457 + 2 ≤ x) : fdS v o p d x = v x := by
  unfold fdS
  rw [va_up_ne _ _ (by omega), va_up_ne _ _ (by omega), va_up_ne _ _ (by omega), va_up_ne _ _ (by omega)]
theorem fdS_7 (v : Nat → Nat) (o p d : Nat) : fdS v o p d 457 = v 457 + 1 ∧ fdS v o p d 458 = v 458 + v (o + 4 + 6 * p + 4) ∧ fdS v o p d (460 + 2 * v 457) = v (o + 4 + 6 * p) ∧ fdS v o p d (460 + 2 * v 457 + 1) = d := by
  unfold fdS
  refine ⟨?_, va_up_self _ _ _, ?_, ?_⟩
  · rw [va_up_ne _ _ (by omega), va_up_self]
  · rw [va_up_ne _ _ (by omega), va_up_ne _ _ (by omega), va_up_ne _ _ (by omega), va_up_self]
  · rw [va_up_ne _ _ (by omega), va_up_ne _ _ (by omega), va_up_self]
theorem fdN_a {o : Nat} {e d v : Nat → Nat} (h0 : v 457 = 0) : ∀ n, n ≤ 300 → fdN o e d v n 457 = n ∧ ∀ x, x < 457 ∨ 1100 ≤ x ∨ x = 459 → fdN o e d v n x = v x
  | 0, _ => ⟨h0, fun x _ => rfl⟩
  | n + 1, h => by
    obtain ⟨i1, i2⟩ := fdN_a (o := o) (e := e) (d := d) h0 n (by omega)
    refine ⟨?_, fun x hx => ?_⟩
    · show fdS (fdN o e d v n) o (e n) (d n) 457 = n + 1
      rw [(fdS_7 _ _ _ _).1, i1]
    · show fdS (fdN o e d v n) o (e n) (d n) x = v x
      rw [fdS_x (by omega) (by rw [i1]; omega)]
      exact i2 x hx
/-- what is found, entry for entry -/
theorem fdN_e {o : Nat} {e d v : Nat → Nat} (h0 : v 457 = 0) (ho : 1100 ≤ o) : ∀ n, n ≤ 300 → (∀ r, r < n → fdN o e d v n (460 + 2 * r) = v (o + 4 + 6 * e r) ∧ fdN o e d v n (460 + 2 * r + 1) = d r)
  | 0, _, r, hr => by omega
  | n + 1, h, r, hr => by
    obtain ⟨i1, i2⟩ := fdN_a (o := o) (e := e) (d := d) h0 n (by omega)
    show fdS (fdN o e d v n) o (e n) (d n) (460 + 2 * r) = _ ∧ fdS (fdN o e d v n) o (e n) (d n) (460 + 2 * r + 1) = _
    by_cases q : r = n
    · subst q
      obtain ⟨_, _, a3, a4⟩ := fdS_7 (fdN o e d v r) o (e r) (d r)
      rw [i1] at a3 a4
      exact ⟨a3.trans (i2 _ (by omega)), a4⟩
    · have ih := fdN_e (e := e) (d := d) h0 ho n (by omega) r (by omega)
      rw [fdS_x (by omega) (by rw [i1]; omega), fdS_x (by omega) (by rw [i1]; omega)]
      exact ih
theorem SV_hi {v u : Nat → Nat} (h : ∀ x, x < 49 ∨ 1100 ≤ x → u x = v x) (s : SV v) : SV u := by
  have cg : ∀ x, x < 49 → u x = v x := fun x hx => h x (Or.inl hx)
  refine ⟨WC_cg cg s.1, fun k hk => ?_⟩
  have ob := oS_b hk
  obtain ⟨s1, s2, s3⟩ := s.2 k hk
  rw [h (oS k) (by omega), h (oS k + 1) (by omega), h (60180 + k) (by omega), h 0 (by omega)]
  refine ⟨s1, s2, fun y => ?_⟩
  obtain ⟨s4, s5⟩ := s3 y
  obtain ⟨i8, hc⟩ := s.i8 hk y
  refine ⟨s4, fun n hn => ?_⟩
  obtain ⟨u1, u2, u3⟩ := s5 n hn
  rw [h (oS k + 2110 * n) (by omega), h (oS k + 2110 * n + 1) (by omega)]
  exact ⟨u1, u2, SW_cg i8 hc cg (fun x hx => h _ (by omega)) u3⟩
theorem SW_hi {v u : Nat → Nat} {i o : Nat} (hi : i < 8) (hc : okI v i) (ho : 1100 ≤ o) (h : ∀ x, x < 49 ∨ 1100 ≤ x → u x = v x) (s : SW v i o) : SW u i o := SW_cg hi hc (fun x hx => h x (Or.inl hx)) (fun x hx => h _ (by omega)) s
theorem ds_hi {v u : Nat → Nat} {o : Nat} (ho : 1100 ≤ o) (h : ∀ x, x < 49 ∨ 1100 ≤ x → u x = v x) (g : Nat → Nat) (wy : Nat) : dsP u o g wy = dsP v o g wy ∧ kL u o g wy = kL v o g wy := by
  have e : dsP u o g wy = dsP v o g wy := by
    funext p
    unfold dsP
    rw [h _ (by omega), h _ (by omega), h _ (by omega)]
  refine ⟨e, ?_⟩
  funext i j
  unfold kL
  rw [e, h _ (by omega), h _ (by omega)]
theorem R_begins {v : Nat → Nat} {w : Nat → Int32} {M : q_M} (h : SH M) (r : RI M v) (wi : WI M w) : ∃ M1, q_CL 202 [.inr (.inr (some 49))] M = some (none, M1) ∧ FL f50 M M1 ∧ RI M1 (fd0 v 0) ∧ WI M1 w := by
  have hA : SH (stL M 50 457 (lN 0)) := h
  have hB : SH (stL (stL M 50 457 (lN 0)) 50 458 (lN 0)) := h
  refine ⟨stL (stL (stL M 50 457 (lN 0)) 50 458 (lN 0)) 50 459 (lN 0), ?_, (((FL.rf f50 M).st (show f50 50 from rfl)).st (show f50 50 from rfl)).st (show f50 50 from rfl), RI_up (RI_up (RI_up r (by omega)) (by omega)) (by omega), WI_up (WI_up (WI_up wi (by omega)) (by omega)) (by omega)⟩
  rw [C_X12_begins]
  simp only [m_s h, Option.bind_some, m_bL h (show 457 < 60190 by omega), m_s hA, m_bL hA (show 458 < 60190 by omega), m_s hB, m_bL hB (show 459 < 60190 by omega)]
theorem R_finds {v : Nat → Nat} {o p d : Nat} (ho : 1100 ≤ o ∧ o + 2110 ≤ 60180) (hp : p ≤ 299) (hd : d < 2 ^ 62) (hN : v 457 < 300) (hW : v 458 + v (o + 4 + 6 * p + 4) < 2 ^ 62) {w : Nat → Int32} {M : q_M} (h : SH M) (r : RI M v) (wi : WI M w) (eo : gI M 49 13 = nI o) : ∃ M1, q_CL 201 [.inr (.inr (some 49)), .inl (nI p), .inr (.inl (lN d))] M = some (none, M1) ∧ FL f50 M M1 ∧ RI M1 (fdS v o p d) ∧ WI M1 w := by
  have rN := r 457 (by omega) (by omega)
  have p0 := R_point h r ho eo (p := p) (k := 0) (by omega) (by omega)
  rw [Nat.add_zero] at p0
  have r0 := r (o + 4 + 6 * p) (by omega) (by omega)
  have f : f50 50 := rfl
  have hA : SH (stL M 50 (460 + 2 * v 457) (lN (v (o + 4 + 6 * p)))) := h
  have rA := RI_up (k := 460 + 2 * v 457) r r0.2
  have hB : SH (stL (stL M 50 (460 + 2 * v 457) (lN (v (o + 4 + 6 * p)))) 50 (460 + 2 * v 457 + 1) (lN d)) := h
  have rB := RI_up (k := 460 + 2 * v 457 + 1) rA hd
  have nB := rB 457 (by omega) (by omega)
  rw [va_up_ne _ _ (by omega), va_up_ne _ _ (by omega)] at nB
  have rC := RI_up (k := 457) rB (show v 457 + 1 < 2 ^ 62 by omega)
  have wC : WI (stL (stL (stL M 50 (460 + 2 * v 457) (lN (v (o + 4 + 6 * p)))) 50 (460 + 2 * v 457 + 1) (lN d)) 50 457 (lN (v 457 + 1))) w := WI_up (WI_up (WI_up wi (by omega)) (by omega)) (by omega)
  have fC : FL f50 M (stL (stL (stL M 50 (460 + 2 * v 457) (lN (v (o + 4 + 6 * p)))) 50 (460 + 2 * v 457 + 1) (lN d)) 50 457 (lN (v 457 + 1))) := (((FL.rf f50 M).st f).st f).st f
  have eC : gI (stL (stL (stL M 50 (460 + 2 * v 457) (lN (v (o + 4 + 6 * p)))) 50 (460 + 2 * v 457 + 1) (lN d)) 50 457 (lN (v 457 + 1))) 49 13 = nI o := eo
  have hC : SH (stL (stL (stL M 50 (460 + 2 * v 457) (lN (v (o + 4 + 6 * p)))) 50 (460 + 2 * v 457 + 1) (lN d)) 50 457 (lN (v 457 + 1))) := h
  rw [C_X12_finds]
  simp only [m_s h, Option.bind_some, m_aL h (show 457 < 60190 by omega), rN.1, lN_i, m_sel h, p0, z_rL, pk_mul, nI_add, m_bL h (show 460 + 2 * v 457 < 60190 by omega), m_s hA, m_bL hA (show 460 + 2 * v 457 + 1 < 60190 by omega), m_s hB, m_aL hB (show 457 < 60190 by omega), nB.1, lN_add, m_bL hB (show 457 < 60190 by omega)]
  have p4 := R_point hC rC ho eC (p := p) (k := 4) (by omega) (by omega)
  have r8 := rC 458 (by omega) (by omega)
  rw [va_up_ne _ _ (by omega), va_up_ne _ _ (by omega), va_up_ne _ _ (by omega)] at p4 r8
  generalize hu : va_up (va_up (va_up v (460 + 2 * v 457) (v (o + 4 + 6 * p))) (460 + 2 * v 457 + 1) d) 457 (v 457 + 1) = u at rC
  generalize stL (stL (stL M 50 (460 + 2 * v 457) (lN (v (o + 4 + 6 * p)))) 50 (460 + 2 * v 457 + 1) (lN d)) 50 457 (lN (v 457 + 1)) = C at *
  refine ⟨stL C 50 458 (lN (v 458 + v (o + 4 + 6 * p + 4))), ?_, fC.st f, ?_, WI_up wC (by omega)⟩
  · simp only [m_s hC, Option.bind_some, m_aL hC (show 458 < 60190 by omega), r8.1, m_sel hC, p4, z_rL, lN_add, m_bL hC (show 458 < 60190 by omega)]
  · unfold fdS
    rw [hu]
    exact RI_up rC hW
/-- what a search may ask for -/
def askI (v : Nat → Nat) (x1 x2 x3 x4 x5 x6 : Int32) (j : Nat) (q : Nat → Nat) (wy n : Nat) : Prop := j < 4 ∧ x1 = nI j ∧ v (oS j) = 1 ∧ x2 = nI (q 0) ∧ x3 = nI (q 1) ∧ x4 = nI (q 2) ∧ (∀ a, a < 3 → q a < cB (cK v (v (oS j + 1))) ^ cL v (v (oS j + 1)) a) ∧ x5 = nI wy ∧ wy < 3 ∧ x6 = nI n ∧ 1 ≤ n ∧ n ≤ 20
theorem R_askI {v : Nat → Nat} (s : SV v) {M : q_M} (h : SH M) (r : RI M v) (x1 x2 x3 x4 x5 x6 : Int32) : ∃ M1, FO (fun _ => False) M M1 ∧ ((¬ (∃ j q wy n, askI v x1 x2 x3 x4 x5 x6 j q wy n) ∧ q_CL 213 [.inr (.inr (some 49)), .inl x1, .inl x2, .inl x3, .inl x4, .inl x5, .inl x6] M = some (some (.inl (nI 0)), M1)) ∨ ∃ j q wy n, askI v x1 x2 x3 x4 x5 x6 j q wy n ∧ gI M1 49 13 = nI (oS j) ∧ q_CL 213 [.inr (.inr (some 49)), .inl x1, .inl x2, .inl x3, .inl x4, .inl x5, .inl x6] M = some (some (.inl (nI 1)), M1)) := by
  rw [C_X12_isAskable]
  have t0 : nI 0 = 0 ∨ nI 0 = 1 := Or.inl rfl
  have t1 : nI 1 = 0 ∨ nI 1 = 1 := Or.inr rfl
  simp only [if_pos t0, if_pos t1]
  simp only [m_sel h, Option.bind_some]
  rcases R_opens h r x1 with ⟨hx, M1, e, f⟩ | ⟨j, hj, rfl, eo, e⟩
  · refine ⟨M1, f, Or.inl ⟨fun ⟨j, q, wy, n, a, b, c, _⟩ => hx ⟨j, a, b, c⟩, ?_⟩⟩
    rw [e]; rfl
  have ob := oS_b hj
  refine ⟨stI M 49 13 (nI (oS j)), (FO.rf _ M).sO, ?_⟩
  rw [e]
  simp only [z_rI, Option.bind_some]
  rw [if_neg (show ¬ nI 1 = 0 by decide +kernel)]
  have hA : SH (stI M 49 13 (nI (oS j))) := h
  have rA : RI (stI M 49 13 (nI (oS j))) v := r
  have eA : gI (stI M 49 13 (nI (oS j))) 49 13 = nI (oS j) := gI_self
  generalize stI M 49 13 (nI (oS j)) = A at *
  obtain ⟨i8, hc⟩ := s.i8 hj eo
  have jj : ∀ j2 q wy n, askI v (nI j) x2 x3 x4 x5 x6 j2 q wy n → j2 = j := fun j2 q wy n a => ((nI_eq (by omega) (by have := a.1; omega)).mp a.2.1).symm
  simp only [m_sel hA, Option.bind_some, (R_fld hA rA (show 1100 ≤ oS j ∧ oS j + 2110 ≤ 60180 by omega) eA).2.2, z_rI]
  rcases R_isP hA rA i8 hc x2 x3 x4 with ⟨np_, ep⟩ | ⟨⟨q, hq, rfl, rfl, rfl⟩, ep⟩
  · left
    refine ⟨?_, ?_⟩
    · rintro ⟨j2, q, wy, n, a⟩
      have := jj j2 q wy n a
      subst this
      exact np_ ⟨q, a.2.2.2.2.2.2.1, a.2.2.2.1, a.2.2.2.2.1, a.2.2.2.2.2.1⟩
    · rw [ep]; rfl
  rw [ep]
  simp only [z_rI, Option.bind_some]
  rw [if_neg (show ¬ nI 1 = 0 by decide +kernel)]
  rcases pk_ix x5 (show 3 < 2 ^ 31 by omega) with z | z | ⟨wy, hwy, rfl⟩
  · left
    refine ⟨?_, if_pos z⟩
    rintro ⟨j2, q, wy, n, _, _, _, _, _, _, _, a, b, _⟩
    subst a
    exact nI_pos (by omega) z
  · left
    have b1 : (nI 3).toInt ≤ x5.toInt := Int32.le_iff_toInt_le.mp z
    rw [nI_toInt (by omega)] at b1
    refine ⟨?_, ?_⟩
    · rintro ⟨j2, q, wy, n, _, _, _, _, _, _, _, a, b, _⟩
      subst a
      exact nI_ge b (by omega) z
    · rw [if_neg (fun y => by
        have := Int32.lt_iff_toInt_lt.mp y
        rw [show (0 : Int32) = nI 0 from nI_0.symm, nI_toInt (by omega)] at this
        omega), if_pos (Int32.lt_iff_toInt_lt.mpr (by rw [nI_toInt (by omega)]; omega))]
  rw [if_neg (nI_pos (by omega)), if_neg (nI_nlt (by omega) (by omega))]
  by_cases n0 : x6 < nI 1
  · left
    refine ⟨?_, if_pos n0⟩
    rintro ⟨j2, q, wy, n, _, _, _, _, _, _, _, _, _, rfl, b, c⟩
    exact nI_nlt b (by omega) n0
  rw [if_neg n0]
  by_cases n1 : nI 20 < x6
  · left
    refine ⟨?_, if_pos n1⟩
    rintro ⟨j2, q, wy, n, _, _, _, _, _, _, _, _, _, rfl, b, c⟩
    exact nI_nlt c (by omega) n1
  rw [if_neg n1]
  right
  obtain ⟨n, b1, b2, rfl⟩ : ∃ n, 1 ≤ n ∧ n ≤ 20 ∧ x6 = nI n := by
    have c1 : ¬ x6.toInt < (nI 1).toInt := fun z => n0 (Int32.lt_iff_toInt_lt.mpr z)
    have c2 : ¬ (nI 20).toInt < x6.toInt := fun z => n1 (Int32.lt_iff_toInt_lt.mpr z)
    rw [nI_toInt (by omega)] at c1 c2
    rcases pk_ix x6 (show 21 < 2 ^ 31 by omega) with q | q | ⟨n, q, rfl⟩
    · exfalso
      have : x6.toInt < (nI 0).toInt := by rw [nI_0]; exact Int32.lt_iff_toInt_lt.mp q
      rw [nI_toInt (by omega)] at this
      omega
    · exfalso
      have : (nI 21).toInt ≤ x6.toInt := Int32.le_iff_toInt_le.mp q
      rw [nI_toInt (by omega)] at this
      omega
    · rw [nI_toInt (by omega)] at c1
      exact ⟨n, by omega, by omega, rfl⟩
  exact ⟨j, q, wy, n, ⟨hj, rfl, eo, rfl, rfl, rfl, hq, rfl, hwy, rfl, b1, b2⟩, eA, rfl⟩
theorem R_found {v : Nat → Nat} (hN : v 457 ≤ 300) {M : q_M} (h : SH M) (r : RI M v) (x1 x2 : Int32) : (¬ (∃ i t, x1 = nI i ∧ i < v 457 ∧ x2 = nI t ∧ t < 2) ∧ q_CL 217 [.inr (.inr (some 49)), .inl x1, .inl x2] M = some (some (.inr (.inl (-1))), M)) ∨ ∃ i t, x1 = nI i ∧ i < v 457 ∧ x2 = nI t ∧ t < 2 ∧ q_CL 217 [.inr (.inr (some 49)), .inl x1, .inl x2] M = some (some (.inr (.inl (lN (v (460 + 2 * i + t))))), M) := by
  have rN := r 457 (by omega) (by omega)
  rw [C_X12_found]
  simp only [m_s h, Option.bind_some, m_aL h (show 457 < 60190 by omega), rN.1, lg_cmp_ge, i2l_lt (show v 457 < 2 ^ 31 by omega)]
  rcases pk_ix x1 (show v 457 < 2 ^ 31 by omega) with z | z | ⟨i, hi, rfl⟩
  · left
    refine ⟨?_, if_pos z⟩
    rintro ⟨i, t, rfl, a, _⟩
    exact nI_pos (by omega) z
  · left
    refine ⟨?_, ?_⟩
    · rintro ⟨i, t, rfl, a, _⟩
      exact nI_ge a (by omega) z
    · rw [if_pos z]
      by_cases y : x1 < 0
      · rw [if_pos y]
      · rw [if_neg y]
  rw [if_neg (nI_pos (by omega)), if_neg (nI_ge hi (by omega))]
  rcases pk_ix x2 (show 2 < 2 ^ 31 by omega) with z | z | ⟨t, ht, rfl⟩
  · left
    refine ⟨?_, if_pos z⟩
    rintro ⟨i, t, _, _, rfl, a⟩
    exact nI_pos (by omega) z
  · left
    have b1 : (nI 2).toInt ≤ x2.toInt := Int32.le_iff_toInt_le.mp z
    rw [nI_toInt (by omega)] at b1
    refine ⟨?_, ?_⟩
    · rintro ⟨i, t, _, _, rfl, a⟩
      exact nI_ge a (by omega) z
    · rw [if_neg (fun y => by
        have := Int32.lt_iff_toInt_lt.mp y
        rw [show (0 : Int32) = nI 0 from nI_0.symm, nI_toInt (by omega)] at this
        omega), if_neg (fun y => by
        have := Int32.le_iff_toInt_le.mp y
        rw [nI_toInt (by omega)] at this
        omega)]
  right
  refine ⟨i, t, rfl, hi, rfl, ht, ?_⟩
  rw [if_neg (nI_pos (by omega)), if_pos (nI_le (by omega) (by omega))]
  simp only [pk_mul, nI_add, m_aL h (show 460 + 2 * i + t < 60190 by omega), (r (460 + 2 * i + t) (by omega) (by omega)).1, Option.bind_some]
theorem R_spent {v : Nat → Nat} {M : q_M} (h : SH M) (r : RI M v) (x1 : Int32) : (¬ (∃ t, x1 = nI t ∧ t < 3) ∧ q_CL 218 [.inr (.inr (some 49)), .inl x1] M = some (some (.inl (-1)), M)) ∨ ∃ t, x1 = nI t ∧ t < 3 ∧ q_CL 218 [.inr (.inr (some 49)), .inl x1] M = some (some (.inl (nI (v (457 + t)))), M) := by
  rw [C_X12_spent]
  rcases pk_ix x1 (show 3 < 2 ^ 31 by omega) with z | z | ⟨t, ht, rfl⟩
  · left
    refine ⟨?_, if_pos z⟩
    rintro ⟨t, rfl, a⟩
    exact nI_pos (by omega) z
  · left
    have b1 : (nI 3).toInt ≤ x1.toInt := Int32.le_iff_toInt_le.mp z
    rw [nI_toInt (by omega)] at b1
    refine ⟨?_, ?_⟩
    · rintro ⟨t, rfl, a⟩
      exact nI_ge a (by omega) z
    · rw [if_neg (fun y => by
        have := Int32.lt_iff_toInt_lt.mp y
        rw [show (0 : Int32) = nI 0 from nI_0.symm, nI_toInt (by omega)] at this
        omega), if_neg (fun y => by
        have := Int32.le_iff_toInt_le.mp y
        rw [nI_toInt (by omega)] at this
        omega)]
  right
  refine ⟨t, rfl, ht, ?_⟩
  rw [if_neg (nI_pos (by omega)), if_pos (nI_le (by omega) (by omega))]
  simp only [m_s h, nI_add, m_aL h (show 457 + t < 60190 by omega), (r (457 + t) (by omega) (by omega)).1, lN_i, Option.bind_some]
