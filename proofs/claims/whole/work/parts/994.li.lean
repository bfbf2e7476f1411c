theorem fdN_s {o : Nat} {e d v : Nat → Nat} (h0 : v 457 = 0) (ho : 1100 ≤ o) : ∀ n, n ≤ 300 → fdN o e d v n 458 = v 458 + wtS (fun r t => v (o + 4 + 6 * e r + t)) n
  | 0, _ => rfl
  | n + 1, h => by
    have ih := fdN_s (e := e) (d := d) h0 ho n (by omega)
    have a := (fdN_a (o := o) (e := e) (d := d) h0 n (by omega)).2 (o + 4 + 6 * e n + 4) (by omega)
    show fdS (fdN o e d v n) o (e n) (d n) 458 = v 458 + (wtS (fun r t => v (o + 4 + 6 * e r + t)) n + v (o + 4 + 6 * e n + 4))
    rw [(fdS_7 _ _ _ _).2.1, a, ih, Nat.add_assoc]
theorem FN_fd {M : q_M} {b : Nat} {v : Nat → Nat} {o : Nat} {e d : Nat → Nat} {N rd : Nat} (ho : 1100 ≤ o) (hN : N ≤ 300) (q : FQ M (b + 7) (b + 8) (b + 9) N (fun r t => v (o + 4 + 6 * e r + t)) d rd) (hn : ∀ r, r < N → v (o + 4 + 6 * e r) ≤ 9999) : FN M b (fdN o e d (fd0 v rd) N) := by
  obtain ⟨z7, z8, z9⟩ := fd0_7 v rd
  obtain ⟨a1, a2⟩ := fdN_a (o := o) (e := e) (d := d) z7 N hN
  have ae := fdN_e (o := o) (e := e) (d := d) z7 ho N hN
  have as := fdN_s (o := o) (e := e) (d := d) z7 ho N hN
  have e9 : fdN o e d (fd0 v rd) N 459 = rd := (a2 459 (by omega)).trans z9
  refine ⟨by rw [a1]; exact hN, fun r t => v (o + 4 + 6 * e r + t), ?_, fun r hr => ?_, ?_⟩
  · rw [a1, e9]
    refine q.cg (fun r hr => ⟨rfl, ?_⟩)
    have := (ae r hr).2
    rw [show 460 + 2 * r + 1 = 461 + 2 * r by omega] at this
    exact this
  · rw [a1] at hr
    refine ⟨?_, hn r hr⟩
    rw [(ae r hr).1, fd0_x (by omega)]
    rfl
  · rw [a1, as, z8, Nat.zero_add]
    exact wtS_cg N (fun r hr => (fd0_x (by omega)).symm)
theorem ap_now : sfa 9 10 11 := fun a z y => by unfold s39 at z; rcases y with y | y | y <;> omega
theorem ap_spare : sfa 45 46 47 := fun a z y => by unfold s39 at z; rcases y with y | y | y <;> omega
/-! the way, and what is aimed at -/
theorem K_isWay {M : q_M} {x : Int32} : ((∃ wy, wy < 3 ∧ x = nI wy) → q_CL 118 [.inl x] M = some (some (.inl (nI 1)), M)) ∧ (¬ (∃ wy, wy < 3 ∧ x = nI wy) → q_CL 118 [.inl x] M = some (some (.inl (nI 0)), M)) := by
  have o0 : (nI 0 = 0 ∨ nI 0 = 1) := Or.inl nI_0
  have o1 : (nI 1 = 0 ∨ nI 1 = 1) := Or.inr rfl
  rw [C_X11_isWay]
  simp only [if_pos o0, if_pos o1]
  refine ⟨fun ⟨wy, hw, e⟩ => ?_, fun n => ?_⟩
  · rw [e, if_neg (nI_pos (by omega)), if_neg (nI_nlt (by omega) (by omega))]
  · by_cases c : x < 0
    · rw [if_pos c]
    · rw [if_neg c]
      obtain ⟨k, hk, rfl⟩ := nI_of c
      rw [if_pos (nI_lt (by apply Classical.byContradiction; intro z; exact n ⟨k, by omega, rfl⟩) hk)]
def aimI (v : Nat → Nat) (x1 x2 x3 x4 x5 : Int32) (j : Nat) (q : Nat → Nat) (wy : Nat) : Prop := j < 4 ∧ x1 = nI j ∧ v (oS j) = 1 ∧ x2 = nI (q 0) ∧ x3 = nI (q 1) ∧ x4 = nI (q 2) ∧ (∀ a, a < 3 → q a < cB (cK v (v (oS j + 1))) ^ cL v (v (oS j + 1)) a) ∧ x5 = nI wy ∧ wy < 3
theorem K_aimAt_no {v : Nat → Nat} (sv : SV v) {M : q_M} (h : SH M) (hs : HS M 2 v) {x1 x2 x3 x4 x5 : Int32} (n : ¬ ∃ j q wy, aimI v x1 x2 x3 x4 x5 j q wy) : q_CL 119 [.inr (.inr (some 1)), .inl x1, .inl x2, .inl x3, .inl x4, .inl x5] M = some (some (.inr (.inr none)), M) := by
  rw [C_X11_aimAt]
  by_cases c : ∃ j, j < 4 ∧ x1 = nI j ∧ v (oS j) = 1
  rotate_left
  · simp only [c_sel h, Option.bind_some, K_sA_no sv h hs c, z_rR]
    rw [if_pos trivial]
  obtain ⟨j, hj, rfl, e⟩ := c
  obtain ⟨c, r, ps, sz, o1, o2, o3, o4, o5, _⟩ := HS.op h hs hj e
  have hc := (sv.i8 hj e).2
  simp only [c_sel h, Option.bind_some, K_sA h hs hj e, z_rR]
  rw [if_neg (by simp)]
  by_cases w : ∃ wy, wy < 3 ∧ x5 = nI wy
  rotate_left
  · rw [K_isWay.2 w]
    simp only [z_rI, Option.bind_some]
    rw [if_pos nI_0]
  rw [K_isWay.1 w]
  obtain ⟨wy, hw, rfl⟩ := w
  simp only [z_rI, Option.bind_some]
  rw [if_neg (show ¬ nI 1 = 0 by decide +kernel)]
  simp only [o2, Option.bind_some, o3.s4]
  rcases K_holds o3 (fun a ha => by have := room_le hc ha; omega) x2 x3 x4 with ⟨_, e1⟩ | ⟨⟨q, q1, q2, q3, q4⟩, _⟩
  · rw [e1]
    simp only [z_rI, Option.bind_some]
    rw [if_pos nI_0]
  · exact absurd ⟨j, q, wy, hj, rfl, e, q2, q3, q4, q1, rfl, hw⟩ n
theorem K_aimAt {v : Nat → Nat} (sv : SV v) {M : q_M} (h : SH M) (hs : HS M 2 v) {x1 x2 x3 x4 x5 : Int32} {j : Nat} {q : Nat → Nat} {wy : Nat} (a : aimI v x1 x2 x3 x4 x5 j q wy) : ∃ r ps sz M1, q_CL 119 [.inr (.inr (some 1)), .inl x1, .inl x2, .inl x3, .inl x4, .inl x5] M = some (some (.inr (.inr (some r))), M1) ∧ FC s39 M M1 ∧ SA M1 q wy ∧ RWx M1 r ps sz v (oS j) ∧ ST M1 r ∧ ST M1 ps ∧ ST M1 sz := by
  obtain ⟨hj, rfl, e, rfl, rfl, rfl, hq, rfl, hw⟩ := a
  obtain ⟨c, r, ps, sz, o1, o2, o3, o4, o5, st1, st2, st3⟩ := HS.op h hs hj e
  have hc := (sv.i8 hj e).2
  obtain ⟨M1, u1, u2, u3⟩ := K_aim h (g := q) (wy := wy) (fun a ha => by have := hq a ha; have := room_le hc ha; omega) hw
  have n23 : ¬ s39 23 := by unfold s39; omega
  refine ⟨r, ps, sz, M1, ?_, u2, u3, o5.fc u2 s39_63 st1 st2 st3, u2.st n23 st1, u2.st n23 st2, u2.st n23 st3⟩
  have h1 := u2.sh h
  have o4' : q_fR M1 5 (15 + 2 * j) 1 = some (some r) := by
    rw [z_fR (h_is h1 hj), (u2.2.2.2.1 _ _ (by unfold s39; omega)).2.2]
    rw [z_fR (h_is h hj)] at o4
    exact o4
  rw [C_X11_aimAt]
  simp only [c_sel h, Option.bind_some, K_sA h hs hj e, z_rR]
  rw [if_neg (by simp), K_isWay.1 ⟨wy, hw, rfl⟩]
  simp only [z_rI, Option.bind_some]
  rw [if_neg (show ¬ nI 1 = 0 by decide +kernel)]
  simp only [o2, Option.bind_some, o3.s4]
  rcases K_holds o3 (fun a ha => by have := room_le hc ha; omega) (nI (q 0)) (nI (q 1)) (nI (q 2)) with ⟨e1, _⟩ | ⟨_, e1⟩
  · exact absurd ⟨q, hq, rfl, rfl, rfl⟩ e1
  rw [e1]
  simp only [z_rI, Option.bind_some]
  rw [if_neg (show ¬ nI 1 = 0 by decide +kernel)]
  simp only [c_now h (show (1, 5, 39) ∈ q_crs by decide), Option.bind_some, s39_sel h, u1, z_rV, o4']
theorem K_near_no {v : Nat → Nat} (sv : SV v) {M : q_M} (h : SH M) (hs : HS M 2 v) {x1 x2 x3 x4 x5 x6 : Int32} (n : ¬ ∃ j q wy n, askI v x1 x2 x3 x4 x5 x6 j q wy n) : ∃ M1, q_CL 112 [.inr (.inr (some 1)), .inl x1, .inl x2, .inl x3, .inl x4, .inl x5, .inl x6] M = some (some (.inl (-1)), M1) ∧ FC s39 M M1 := by
  rw [C_X11_nearest]
  simp only [c_sel h, Option.bind_some]
  by_cases c : ∃ j q wy, aimI v x1 x2 x3 x4 x5 j q wy
  rotate_left
  · refine ⟨M, ?_, FC.rf _ M⟩
    simp only [K_aimAt_no sv h hs c, z_rR, Option.bind_some]
    rw [if_pos trivial]
  obtain ⟨j, q, wy, a⟩ := c
  obtain ⟨r, ps, sz, M1, u1, u2, _⟩ := K_aimAt sv h hs a
  refine ⟨M1, ?_, u2⟩
  simp only [u1, z_rR, Option.bind_some]
  rw [if_neg (by simp)]
  by_cases c0 : x6 < nI 1
  · rw [if_pos c0]
  rw [if_neg c0]
  have c1 : ¬ x6 < 0 := fun z => c0 (by
    have a := Int32.lt_iff_toInt_lt.mp z
    rw [show (0 : Int32) = nI 0 from nI_0.symm, nI_toInt (by omega)] at a
    apply Int32.lt_iff_toInt_lt.mpr
    rw [nI_toInt (by omega)]
    omega)
  obtain ⟨k, hk, rfl⟩ := nI_of c1
  by_cases c2 : k ≤ 20
  · obtain ⟨a1, a2, a3, a4, a5, a6, a7, a8, a9⟩ := a
    exact absurd ⟨j, q, wy, k, a1, a2, a3, a4, a5, a6, a7, a8, a9, rfl, Nat.pos_of_ne_zero (fun z => c0 (by rw [z]; exact nI_lt (by omega) (by omega))), c2⟩ n
  · rw [if_neg (nI_ge (by omega) hk)]
theorem K_near {v : Nat → Nat} (sv : SV v) {M : q_M} (h : SH M) (hs : HS M 2 v) {x1 x2 x3 x4 x5 x6 : Int32} {j : Nat} {q : Nat → Nat} {wy n t : Nat} {rd : Nat → Bool} (a : askI v x1 x2 x3 x4 x5 x6 j q wy n) (rf : rdF v (oS j) q wy n t rd) : ∃ M1, q_CL 112 [.inr (.inr (some 1)), .inl x1, .inl x2, .inl x3, .inl x4, .inl x5, .inl x6] M = some (some (.inl (nI (min (v (oS j + 2)) n))), M1) ∧ FC (nrP 9 10 11) M M1 ∧ FN M1 2 (nrV v (oS j) q wy t (min (v (oS j + 2)) n)) := by
  obtain ⟨a1, a2, a3, a4, a5, a6, a7, a8, a9, rfl, a10, a11⟩ := a
  have ai : aimI v x1 x2 x3 x4 x5 j q wy := ⟨a1, a2, a3, a4, a5, a6, a7, a8, a9⟩
  obtain ⟨i8, hc⟩ := sv.i8 a1 a3
  have sw := sv.sw a1 a3
  have s1 := sw.1
  have ob := oS_b a1
  obtain ⟨r, ps, sz, A, u1, u2, u3, u4, u5⟩ := K_aimAt sv h hs ai
  have hA := u2.sh h
  obtain ⟨t', rd', B, b1, b2, b3, b4, b5, b6, b7, b8⟩ := K_rdN hA (FS_now hA) ap_now u4 u5 sw hc u3 ⟨a10, a11⟩ (by omega)
  obtain ⟨rfl, rfl⟩ := rdF_eq b1 rf
  obtain ⟨na, nb⟩ := near_all sw rf
  have oR : Ord (kL v (oS j) q wy) (v (oS j + 2)) := kL_o fun p q hp hq => (sw.2.2.2.2.2 p q hp hq).1
  have hB := b3.sh hA
  unfold NQ at b8
  rw [na] at b8
  have q1 : gI B 9 2 = nI (min (v (oS j + 2)) n) := b8.1
  refine ⟨B, ?_, (u2.wk (fun _ z => Or.inl z)).tr b3, ?_⟩
  · rw [C_X11_nearest]
    simp only [c_sel h, Option.bind_some, u1, z_rR]
    rw [if_neg (by simp), if_neg (nI_nlt a10 (by omega)), if_pos (nI_le a11 (by omega))]
    simp only [c_now hA (show (1, 5, 39) ∈ q_crs by decide), c_now hA (show (1, 0, 2) ∈ q_crs by decide), s_now hA (show (2, 5, 9) ∈ q_crs by decide), Option.bind_some, s39_sel hA, b2, z_rV, c_now hB (show (1, 0, 2) ∈ q_crs by decide), s_now hB (show (2, 5, 9) ∈ q_crs by decide), z_fI b4.is, q1]
  · refine FN_fd (b := 2) (by omega) (by omega) (b8.cg (fun r hr => ?_)) (fun r hr => ?_)
    · rw [nb r hr]; exact ⟨rfl, rfl⟩
    · exact (sw.2.2.2.2.1 _ (elt_ok oR (E := fun _ => true) (by rw [cnt_all]; omega)).1).1
