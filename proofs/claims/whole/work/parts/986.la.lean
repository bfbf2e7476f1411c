def swP (a : Nat) : Prop := a48 a ∨ wsc a
theorem swP_63 : ∀ a, swP a → a < 63 ∧ a ≠ 23 := fun a z => by unfold swP a48 wsc at z; omega
/-- what stands while points are sown: t of them are there since M0 -/
def SWI (M0 M : q_M) (v V : Nat → Nat) (i o r ps sz t n : Nat) : Prop := FB swP (3 + t) (684 + 6 * t) M0 M ∧ WZ M ∧ SW V i o ∧ (∀ x, x < oS 0 → V x = v x) ∧ RWx M r ps sz V o ∧ TN M V o ∧ V (o + 2) + n ≤ M.2.1 ps ∧ V (o + 3) + n ≤ M.2.1 sz ∧ V (o + 2) + n ≤ 300 ∧ sz < gN M
theorem K_sow1 {M0 M : q_M} {v V : Nat → Nat} {i o r ps sz c t n nm p e k wt : Nat} {q : Nat → Nat} (h0 : SH M0) (ib0 : IB M0) (hi : i < 8) (hc : okI v i) (ho : 1100 ≤ o) (co : CO M0 c (cK v i) (cD v i) (cL v i) i) (rr : gN M0 = r ∧ ps = r + 1 ∧ sz = r + 2) (I : SWI M0 M v V i o r ps sz t (n + 1)) (hq : ∀ a, a < 3 → q a < cB (cK V i) ^ cL V i a) (hw : wt ≤ 1000) (fn : frN V o nm) (ca : cmAt V i o nm q wt p e k) (rn : gN M ≤ 600000) (rs : gS M + 6 ≤ 7302250) : ∃ B M1, q_new M 2 6 = some (q_born M 2 6) ∧ q_CL 101 [.inr (.inr (some 1))] (q_born M 2 6) = some (some (.inl (nI nm)), stI (q_born M 2 6) 48 nm (nI 1)) ∧ q_CL 73 [.inr (.inr (some 25)), .inr (.inr (some c)), .inl (nI (q 0)), .inl (nI (q 1)), .inl (nI (q 2))] (stI (q_born M 2 6) 48 nm (nI 1)) = some (some (.inr (.inl (lN (npI V i q)))), B) ∧ ∃ M2, q_CL 14 [.inr (.inr (some (gN M))), .inl (nI nm), .inr (.inl (lN (npI V i q))), .inl (nI (q 0)), .inl (nI (q 1)), .inl (nI (q 2)), .inl (nI wt)] B = some (none, M2) ∧ M2.1 r = 3 ∧ q_CL 19 [.inr (.inr (some r)), .inr (.inr (some (gN M)))] M2 = some (some (.inl (nI k)), M1) ∧ SWI M0 M1 v (cmV V o p e (cP nm q wt (npI V i q))) i o r ps sz (t + 1) n := by
  obtain ⟨i1, i2, i3, i4, i5, i6, i7, i8, i9, i10⟩ := I
  obtain ⟨rr1, rr2, rr3⟩ := rr
  have g0 := h0.2.2.2
  have h := i1.sh h0
  have g := h.2.2.2
  have ib := i1.ib g0 (by unfold swP a48 wsc; omega) ib0
  have e49 : ∀ x, x < 49 → V x = v x := fun x hx => i4 x (by unfold oS; omega)
  have hcV : okI V i := okI_cg e49 hi hc
  have kp := i1.kp g0 (fun a _ z => swP_63 a z)
  have coV := (co.vu hi e49).kp kp
  have s1 := i3.1
  have s2 := i3.2.1
  have nmb : nm ≤ 300 := by have := frN_le fn.2; omega
  -- born, and the name taken
  have fB := FB.born a48 M g 2 6
  have f1 : FC a48 (q_born M 2 6) (stI (q_born M 2 6) 48 nm (nI 1)) := (FC.rf a48 _).sI rfl
  have fb1 : FB a48 1 6 M (stI (q_born M 2 6) 48 nm (nI 1)) := (fB.tr f1.fb (fun _ _ z => z)).wk (fun _ _ z => z) (by omega) (by omega)
  have tnB : TN (q_born M 2 6) V o := fun n hn => by
    rw [gI_bornx (by omega)]
    exact i6 n hn
  have fr1 := K_freeN (fB.sh h) tnB fn nmb
  have t2 : (stI (q_born M 2 6) 48 nm (nI 1)).1 (gN M) = 2 := t_bornS M 2 6
  obtain ⟨B, M2, u1, u2, u3, u4, u5, u6⟩ := K_ptB (nm := nm) (wt := wt) hcV h ib fb1 (fun a z => by unfold a48 at z; omega) ⟨by unfold a48; omega, by unfold a48; omega⟩ t2 rfl coV i2 hq
  have h2 := u3.sh h
  have sw63 : ∀ a, (a48 a ∨ wsc a) → a < 63 ∧ a ≠ 23 := swP_63
  have kp2 := u3.kp g (fun a _ z => sw63 a z)
  have stM : ∀ a, gN M0 ≤ a → a < gN M → ST M a := fun a x y => ST_new i1 g0 (by unfold swP a48 wsc; omega) ib0 x y
  have d2 := i5.kp (stM _ (by omega) (by omega)) (stM _ (by omega) (by omega)) (stM _ (by omega) (by omega)) kp2
  have l1 : M2.2.1 ps = M.2.1 ps := (u3.2.2.2.1 ps (by omega)).2
  have l2 : M2.2.1 sz = M.2.1 sz := (u3.2.2.2.1 sz (by omega)).2
  have hN : npI V i q < 2 ^ 62 := by
    have := npI_lt hcV hq
    have := cS_62 hcV
    omega
  obtain ⟨M1, w1, w2, w3⟩ := K_come hi hcV i3 (by omega) (by omega) ca hq (by omega) hw fn.1 hN (SW_62 hcV i3) h2 d2 ⟨by omega, by omega, by omega⟩ (by rw [l1]; omega) (by rw [l2]; omega) u6
  obtain ⟨sw2, hg⟩ := SW_cm hi hcV i3 (by omega) (by omega) ca.1 ca.2.1 ca.2.2.1 ca.2.2.2.1 (fun z => (ca.2.2.2.2.1 z).1) hq (by omega) hw fn.1
  obtain ⟨v1, v2, v3, v4, v5⟩ := cmV_a (c := cP nm q wt (npI V i q)) (fun z => by omega) (by omega) (by omega) ca.1 hg
  refine ⟨B, M1, z_new rn rs, fr1, u1, M2, u2, d2.1, w1, ?_, ?_, sw2, ?_, w3, ?_, ?_, ?_, ?_, ?_⟩
  · have f12 : FB swP (3 + t + 1) (684 + 6 * t + 6) M0 M2 := i1.tr u3 (fun _ _ z => z)
    exact (f12.tr w2.fb (fun x hx z => by rcases z with z | z | z <;> omega)).wk (fun _ _ z => z) (by omega) (by omega)
  · exact WZ.fc w2 ⟨fun z => by rcases z with z | z | z <;> omega, fun z => by rcases z with z | z | z <;> omega⟩ u5
  · intro x hx
    rw [v3 x (by unfold oS at hx; omega)]
    exact i4 x hx
  · intro y hy
    have nd48 : ¬ dra r ps sz 48 := fun z => by rcases z with z | z | z <;> omega
    have e48 : gI M1 48 y = if y = nm then nI 1 else gI M 48 y := by
      rw [(w2.2.2.2.1 48 y nd48).1, (u4.2.2.2.1 48 y (by unfold wsc; omega)).1, gI_stI]
      by_cases z : y = nm
      · rw [if_pos ⟨rfl, z⟩, if_pos z]
      · rw [if_neg (fun w => z w.2), if_neg z]
        exact gI_bornx (by omega)
    rw [e48, v1]
    have nmy : ∀ x, x ≤ V (o + 2) → cmV V o p e (cP nm q wt (npI V i q)) (o + 4 + 6 * x) = if x < p then V (o + 4 + 6 * x) else if x = p then nm else V (o + 4 + 6 * (x - 1)) := fun x hx => v4 x 0 hx (by omega)
    have pm := ca.1
    refine ⟨fun ⟨x, x1, x2⟩ => ?_, fun nn => ?_⟩
    · by_cases z : y = nm
      · rw [if_pos z]
      · rw [if_neg z]
        rw [nmy x (by omega)] at x2
        by_cases c1 : x < p
        · rw [if_pos c1] at x2
          exact (i6 y hy).1 ⟨x, by omega, x2⟩
        · rw [if_neg c1] at x2
          by_cases c2 : x = p
          · rw [if_pos c2] at x2; exact absurd x2.symm z
          · rw [if_neg c2] at x2
            exact (i6 y hy).1 ⟨x - 1, by omega, x2⟩
    · have z : ¬ y = nm := fun z => nn ⟨p, by omega, by rw [nmy p (by omega), if_neg (by omega), if_pos rfl, z]⟩
      rw [if_neg z]
      refine (i6 y hy).2 (fun ⟨x, x1, x2⟩ => nn ?_)
      by_cases c1 : x < p
      · exact ⟨x, by omega, by rw [nmy x (by omega), if_pos c1]; exact x2⟩
      · exact ⟨x + 1, by omega, by rw [nmy (x + 1) (by omega), if_neg (by omega), if_neg (by omega), Nat.add_sub_cancel]; exact x2⟩
  · rw [v1, w2.2.1, l1]; omega
  · rw [v2, w2.2.1, l2]
    unfold cmP cmZ
    by_cases z : V (o + 2) = 0
    · rw [if_pos z, if_pos z, if_neg (by omega)]; omega
    · rw [if_neg z, if_neg z]; split <;> omega
  · rw [v1]; omega
  · rw [w2.gn]
    have := u3.1
    omega
