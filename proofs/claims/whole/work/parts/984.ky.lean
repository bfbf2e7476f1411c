/-! ===== THE CLASS: at, count, page ===== -/
theorem K_at_no {v : Nat → Nat} (sv : SV v) {M : q_M} (h : SH M) (hs : HS M 2 v) {x1 x2 x3 : Int32} (n : ¬ (∃ j p t, j < 4 ∧ x1 = nI j ∧ v (oS j) = 1 ∧ x2 = nI p ∧ p < v (oS j + 2) ∧ x3 = nI t ∧ t < 6)) : q_CL 94 [.inr (.inr (some 1)), .inl x1, .inl x2, .inl x3] M = some (some (.inl (-1)), M) := by
  rw [C_X11_at]
  by_cases c : ∃ j, j < 4 ∧ x1 = nI j ∧ v (oS j) = 1
  rotate_left
  · simp only [c_sel h, Option.bind_some, K_sA_no sv h hs c, z_rR]
    rw [if_pos trivial]
  obtain ⟨j, hj, rfl, e⟩ := c
  obtain ⟨c, r, ps, sz, o1, o2, o3, o4, o5, _⟩ := HS.op h hs hj e
  have sw1 := (sv.sw hj e).1
  simp only [c_sel h, Option.bind_some, K_sA h hs hj e, z_rR]
  rw [if_neg (by simp)]
  by_cases c0 : x2 < 0
  · rw [if_pos c0]
  rw [if_neg c0]
  obtain ⟨p, hp, rfl⟩ := nI_of c0
  simp only [o4, Option.bind_some, o5.f2]
  by_cases c1 : p < v (oS j + 2)
  rotate_left
  · rw [if_neg (nI_nlt (by omega) hp)]
  rw [if_pos (nI_lt c1 (by omega))]
  obtain ⟨d, d1, d2⟩ := o5.pt c1
  have ne : ∀ t, t < 6 → ¬ x3 = nI t := fun t ht z => n ⟨j, p, t, hj, rfl, e, rfl, c1, z, ht⟩
  simp only [o5.f0, Option.bind_some, d1, if_neg (ne 0 (by omega)), if_neg (ne 1 (by omega)), if_neg (ne 2 (by omega)), if_neg (ne 3 (by omega)), if_neg (ne 4 (by omega)), if_neg (ne 5 (by omega))]
theorem K_at {v : Nat → Nat} (sv : SV v) {M : q_M} (h : SH M) (hs : HS M 2 v) {j : Nat} (hj : j < 4) (e : v (oS j) = 1) {p t : Nat} (hp : p < v (oS j + 2)) : (t < 5 → q_CL 94 [.inr (.inr (some 1)), .inl (nI j), .inl (nI p), .inl (nI t)] M = some (some (.inl (nI (v (oS j + 4 + 6 * p + t)))), M)) ∧ (t = 5 → ∀ g, pgAt v (oS j) p g → q_CL 94 [.inr (.inr (some 1)), .inl (nI j), .inl (nI p), .inl (nI t)] M = some (some (.inl (nI g)), M)) := by
  obtain ⟨c, r, ps, sz, o1, o2, o3, o4, o5, _⟩ := HS.op h hs hj e
  have sw := sv.sw hj e
  have sw1 := sw.1
  obtain ⟨d, d1, d2⟩ := o5.pt hp
  obtain ⟨f0, f1, f2, f3, f4, f5⟩ := d2.f
  have ne : ∀ a b, a < 6 → b < 6 → a ≠ b → ¬ nI a = nI b := fun a b ha hb z w => z ((nI_eq (by omega) (by omega)).mp w)
  rw [C_X11_at]
  simp only [c_sel h, Option.bind_some, K_sA h hs hj e, z_rR]
  rw [if_neg (by simp), if_neg (nI_pos (by omega))]
  simp only [o4, Option.bind_some, o5.f2]
  rw [if_pos (nI_lt hp (by omega))]
  simp only [o5.f0, Option.bind_some, d1]
  refine ⟨fun ht => ?_, fun ht g pa => ?_⟩
  · rcases (show t = 0 ∨ t = 1 ∨ t = 2 ∨ t = 3 ∨ t = 4 by omega) with rfl | rfl | rfl | rfl | rfl
    · rw [if_pos rfl]; simp only [f0, Option.bind_some]
    · rw [if_neg (ne _ _ (by omega) (by omega) (by omega)), if_pos rfl]; simp only [f2, Option.bind_some]
    · rw [if_neg (ne _ _ (by omega) (by omega) (by omega)), if_neg (ne _ _ (by omega) (by omega) (by omega)), if_pos rfl]; simp only [f3, Option.bind_some]
    · rw [if_neg (ne _ _ (by omega) (by omega) (by omega)), if_neg (ne _ _ (by omega) (by omega) (by omega)), if_neg (ne _ _ (by omega) (by omega) (by omega)), if_pos rfl]; simp only [f4, Option.bind_some]
    · rw [if_neg (ne _ _ (by omega) (by omega) (by omega)), if_neg (ne _ _ (by omega) (by omega) (by omega)), if_neg (ne _ _ (by omega) (by omega) (by omega)), if_neg (ne _ _ (by omega) (by omega) (by omega)), if_pos rfl]; simp only [f5, Option.bind_some]
  · subst ht
    have k := K_pgOf o5 (Nat.le_trans sw.2.1 sw.1) pa (by rw [sw.2.2.1]; omega)
    simp only [if_neg (ne 5 0 (by omega) (by omega) (by omega)), if_neg (ne 5 1 (by omega) (by omega) (by omega)), if_neg (ne 5 2 (by omega) (by omega) (by omega)), if_neg (ne 5 3 (by omega) (by omega) (by omega)), if_neg (ne 5 4 (by omega) (by omega) (by omega)), o4, Option.bind_some, o5.sel, k, z_rI]
    rw [if_pos trivial]
theorem K_count_no {v : Nat → Nat} (sv : SV v) {M : q_M} (h : SH M) (hs : HS M 2 v) {x1 x2 : Int32} (n : ¬ (∃ j, j < 4 ∧ x1 = nI j ∧ v (oS j) = 1)) : q_CL 95 [.inr (.inr (some 1)), .inl x1, .inl x2] M = some (some (.inl (-1)), M) := by
  rw [C_X11_count]
  simp only [c_sel h, Option.bind_some, K_sA_no sv h hs n, z_rR]
  rw [if_pos trivial]
theorem CO.f0 {M : q_M} {c K d : Nat} {L : Nat → Nat} {i : Nat} (h : CO M c K d L i) : q_fI M 0 c 0 = some (nI i) := (z_fI (by rw [h.1]; exact kT_is K)).trans (congrArg some h.2.1)
theorem K_count {v : Nat → Nat} (sv : SV v) {M : q_M} (h : SH M) (hs : HS M 2 v) {j : Nat} (hj : j < 4) (e : v (oS j) = 1) (x2 : Int32) : q_CL 95 [.inr (.inr (some 1)), .inl (nI j), .inl x2] M = some (some (.inl (if x2 = nI 0 then nI (v (oS j + 2)) else if x2 = nI 1 then nI (v (oS j + 3)) else if x2 = nI 2 then nI (wsm v (oS j) 0 (v (oS j + 2))) else if x2 = nI 3 then nI (v (oS j + 1)) else if x2 = nI 4 then nI (v (60180 + j)) else -1)), M) := by
  obtain ⟨c, r, ps, sz, o1, o2, o3, o4, o5, _⟩ := HS.op h hs hj e
  have sw1 := (sv.sw hj e).1
  have kw := K_wts o5 sw1 (f := 0) (n := v (oS j + 2)) (by omega)
  rw [C_X11_count]
  simp only [c_sel h, Option.bind_some, K_sA h hs hj e, z_rR]
  rw [if_neg (by simp)]
  by_cases c0 : x2 = nI 0
  · simp only [if_pos c0, o4, Option.bind_some, o5.f2]
  by_cases c1 : x2 = nI 1
  · simp only [if_neg c0, if_pos c1, o4, Option.bind_some, o5.f3]
  by_cases c2 : x2 = nI 2
  · simp only [if_neg c0, if_neg c1, if_pos c2, o4, Option.bind_some, o5.f2, o5.sel, kw, z_rI]
  by_cases c3 : x2 = nI 3
  · simp only [if_neg c0, if_neg c1, if_neg c2, if_pos c3, o2, Option.bind_some, o3.f0]
  by_cases c4 : x2 = nI 4
  · simp only [if_neg c0, if_neg c1, if_neg c2, if_neg c3, if_pos c4, o1, Option.bind_some]
  simp only [if_neg c0, if_neg c1, if_neg c2, if_neg c3, if_neg c4]
/-! page -/
theorem K_page_no {v : Nat → Nat} (sv : SV v) {M : q_M} (h : SH M) (hs : HS M 2 v) {x1 x2 x3 : Int32} (n : ¬ (∃ j k t, j < 4 ∧ x1 = nI j ∧ v (oS j) = 1 ∧ x2 = nI k ∧ k < v (oS j + 3) ∧ x3 = nI t ∧ t < 9)) : q_CL 96 [.inr (.inr (some 1)), .inl x1, .inl x2, .inl x3] M = some (some (.inl (-1)), M) := by
  rw [C_X11_page]
  by_cases c : ∃ j, j < 4 ∧ x1 = nI j ∧ v (oS j) = 1
  rotate_left
  · simp only [c_sel h, Option.bind_some, K_sA_no sv h hs c, z_rR]
    rw [if_pos trivial]
  obtain ⟨j, hj, rfl, e⟩ := c
  obtain ⟨c, r, ps, sz, o1, o2, o3, o4, o5, _⟩ := HS.op h hs hj e
  have sw := sv.sw hj e
  have sw1 := sw.1
  have sw2 := sw.2.1
  simp only [c_sel h, Option.bind_some, K_sA h hs hj e, z_rR]
  rw [if_neg (by simp)]
  by_cases c0 : x2 < 0
  · rw [if_pos c0]
  rw [if_neg c0]
  obtain ⟨k, hk, rfl⟩ := nI_of c0
  simp only [o4, Option.bind_some, o5.f3]
  by_cases c1 : k < v (oS j + 3)
  rotate_left
  · rw [if_neg (nI_nlt (by omega) hk)]
  rw [if_pos (nI_lt c1 (by omega))]
  have ks := K_start o5 (Nat.le_trans sw.2.1 sw.1) (show k ≤ v (oS j + 3) by omega)
  have ne : ∀ t, t < 9 → ¬ x3 = nI t := fun t ht z => n ⟨j, k, t, hj, rfl, e, rfl, c1, z, ht⟩
  simp only [o5.sel, Option.bind_some, ks, z_rI, o4, o5.f1, o5.sz c1, if_neg (ne 0 (by omega)), if_neg (ne 1 (by omega)), if_neg (ne 2 (by omega)), if_neg (ne 3 (by omega)), if_neg (ne 4 (by omega)), if_neg (ne 5 (by omega)), if_neg (ne 6 (by omega)), if_neg (ne 7 (by omega)), if_neg (ne 8 (by omega))]
theorem SW.pn {v : Nat → Nat} {i o : Nat} (s : SW v i o) {k : Nat} (hk : k < v (o + 3)) : psm v o k + v (o + 1804 + k) ≤ v (o + 2) := by
  have := psm_in (v := v) (o := o) (k := k) (v (o + 3)) hk
  rw [s.2.2.1] at this
  exact this
theorem SW.pb {v : Nat → Nat} {i o : Nat} (hc : okI v i) (s : SW v i o) {a : Nat} (ha : a < 3) : ∀ p, p < v (o + 2) → v (o + 4 + 6 * p + (1 + a)) < 2 ^ 30 := fun p hp => by
  have := (s.2.2.2.2.1 p hp).2.2.1 a ha
  have := (room_le hc ha).2
  omega
theorem K_page {v : Nat → Nat} (sv : SV v) {M : q_M} (h : SH M) (hs : HS M 2 v) {j : Nat} (hj : j < 4) (e : v (oS j) = 1) {k t : Nat} (hk : k < v (oS j + 3)) (ht : t < 9) : q_CL 96 [.inr (.inr (some 1)), .inl (nI j), .inl (nI k), .inl (nI t)] M = some (some (.inl (nI (pgW v (oS j) k t))), M) := by
  obtain ⟨c, r, ps, sz, o1, o2, o3, o4, o5, _⟩ := HS.op h hs hj e
  obtain ⟨i8, hc⟩ := sv.i8 hj e
  have sw := sv.sw hj e
  have sw1 := sw.1
  have sw2 := sw.2.1
  have pn := sw.pn hk
  have z1 := (sw.2.2.2.1 k hk).1
  have ks := K_start o5 (Nat.le_trans sw.2.1 sw.1) (show k ≤ v (oS j + 3) by omega)
  have kw := K_wts o5 sw1 (f := psm v (oS j) k) (n := v (oS j + 1804 + k)) pn
  have kl := fun a (ha : a < 3) => K_least o5 sw1 (f := psm v (oS j) k) (n := v (oS j + 1804 + k)) z1 pn ha (sw.pb hc ha)
  have kg := fun a (ha : a < 3) => K_greatest o5 sw1 (f := psm v (oS j) k) (n := v (oS j + 1804 + k)) z1 pn ha (sw.pb hc ha)
  have ne : ∀ a b, a < 9 → b < 9 → a ≠ b → ¬ nI a = nI b := fun a b ha hb z w => z ((nI_eq (by omega) (by omega)).mp w)
  rw [C_X11_page]
  simp only [c_sel h, Option.bind_some, K_sA h hs hj e, z_rR]
  rw [if_neg (by simp), if_neg (nI_pos (by omega))]
  simp only [o4, Option.bind_some, o5.f3]
  rw [if_pos (nI_lt hk (by omega))]
  simp only [o5.sel, Option.bind_some, ks, z_rI, o4, o5.f1, o5.sz hk]
  unfold pgW
  rcases (show t = 0 ∨ t = 1 ∨ t = 2 ∨ t = 3 ∨ t = 4 ∨ t = 5 ∨ t = 6 ∨ t = 7 ∨ t = 8 by omega) with rfl | rfl | rfl | rfl | rfl | rfl | rfl | rfl | rfl
  · rw [if_pos rfl, if_pos rfl]
  · rw [if_neg (ne 1 0 (by omega) (by omega) (by omega)), if_pos rfl]
    simp only [kw, z_rI, Option.bind_some]
    rfl
  · simp only [if_neg (ne 2 0 (by omega) (by omega) (by omega)), if_neg (ne 2 1 (by omega) (by omega) (by omega)), pk_sub (show 2 ≤ 2 by omega), kl 0 (by omega), z_rI, Option.bind_some]
    rw [if_pos trivial]; rfl
  · simp only [if_neg (ne 3 0 (by omega) (by omega) (by omega)), if_neg (ne 3 1 (by omega) (by omega) (by omega)), if_neg (ne 3 2 (by omega) (by omega) (by omega)), pk_sub (show 2 ≤ 3 by omega), kl 1 (by omega), z_rI, Option.bind_some]
    rw [if_pos trivial]; rfl
  · simp only [if_neg (ne 4 0 (by omega) (by omega) (by omega)), if_neg (ne 4 1 (by omega) (by omega) (by omega)), if_neg (ne 4 2 (by omega) (by omega) (by omega)), if_neg (ne 4 3 (by omega) (by omega) (by omega)), pk_sub (show 2 ≤ 4 by omega), kl 2 (by omega), z_rI, Option.bind_some]
    rw [if_pos trivial]; rfl
  · simp only [if_neg (ne 5 0 (by omega) (by omega) (by omega)), if_neg (ne 5 1 (by omega) (by omega) (by omega)), if_neg (ne 5 2 (by omega) (by omega) (by omega)), if_neg (ne 5 3 (by omega) (by omega) (by omega)), if_neg (ne 5 4 (by omega) (by omega) (by omega)), pk_sub (show 5 ≤ 5 by omega), kg 0 (by omega), z_rI, Option.bind_some]
    rw [if_pos trivial]; rfl
  · simp only [if_neg (ne 6 0 (by omega) (by omega) (by omega)), if_neg (ne 6 1 (by omega) (by omega) (by omega)), if_neg (ne 6 2 (by omega) (by omega) (by omega)), if_neg (ne 6 3 (by omega) (by omega) (by omega)), if_neg (ne 6 4 (by omega) (by omega) (by omega)), if_neg (ne 6 5 (by omega) (by omega) (by omega)), pk_sub (show 5 ≤ 6 by omega), kg 1 (by omega), z_rI, Option.bind_some]
    rw [if_pos trivial]; rfl
  · simp only [if_neg (ne 7 0 (by omega) (by omega) (by omega)), if_neg (ne 7 1 (by omega) (by omega) (by omega)), if_neg (ne 7 2 (by omega) (by omega) (by omega)), if_neg (ne 7 3 (by omega) (by omega) (by omega)), if_neg (ne 7 4 (by omega) (by omega) (by omega)), if_neg (ne 7 5 (by omega) (by omega) (by omega)), if_neg (ne 7 6 (by omega) (by omega) (by omega)), pk_sub (show 5 ≤ 7 by omega), kg 2 (by omega), z_rI, Option.bind_some]
    rw [if_pos trivial]; rfl
  · simp only [if_neg (ne 8 0 (by omega) (by omega) (by omega)), if_neg (ne 8 1 (by omega) (by omega) (by omega)), if_neg (ne 8 2 (by omega) (by omega) (by omega)), if_neg (ne 8 3 (by omega) (by omega) (by omega)), if_neg (ne 8 4 (by omega) (by omega) (by omega)), if_neg (ne 8 5 (by omega) (by omega) (by omega)), if_neg (ne 8 6 (by omega) (by omega) (by omega)), if_neg (ne 8 7 (by omega) (by omega) (by omega))]
    rw [if_pos trivial]; rfl
