/-! ===== THE START ===== -/
theorem lw_c {D : q_M} {L : Nat} {xs : Nat → Int32} (r : Rel 1 (q_M0 L xs) lwG D) : gN D = 63 ∧ ∀ a, 1 ≤ a → a < 63 → D.1 a = lwG.1 (a - 1) ∧ D.2.1 a = lwG.2.1 (a - 1) ∧ ∀ k, gI D a k = gI lwG (a - 1) k ∧ gL D a k = gL lwG (a - 1) k ∧ gR D a k = (gR lwG (a - 1) k).map (1 + ·) := by
  have n62 : gN lwG = 62 := by decide +kernel
  refine ⟨by rw [r.2.1, n62], fun a h1 h2 => ?_⟩
  have := r.2.2.2.1 (a - 1) (by omega)
  rw [show 1 + (a - 1) = a by omega] at this
  exact this
theorem lw_50 (i : Nat) : gL lwG 49 i = 0 := rfl
theorem lw_J {D : q_M} {L : Nat} {xs : Nat → Int32} (r : Rel 1 (q_M0 L xs) lwG D) : JV L xs D := by
  obtain ⟨n63, c⟩ := lw_c r
  have r0 := r.2.2.2.2 0 (by omega)
  have t0 : D.1 0 = 23 := r0.1
  have sh : SH D := by
    refine ⟨fun a ha => ?_, fun a h1 ha => ?_, fun e he => ?_, by omega⟩
    · by_cases z : a = 0
      · subst z; exact t0
      · rw [(c a (by omega) ha).1]
        have := (show ∀ x, x < 62 → lwG.1 x = q_tgs.getD (x + 1) 0 by decide +kernel) (a - 1) (by omega)
        rw [show a - 1 + 1 = a by omega] at this
        exact this
    · rw [(c a h1 ha).2.1]
      have := (show ∀ x, x < 62 → lwG.2.1 x = q_lns.getD (x + 1) 0 by decide +kernel) (a - 1) (by omega)
      rw [show a - 1 + 1 = a by omega] at this
      exact this
    · obtain ⟨k1, k2, k3, k4⟩ := (show ∀ e ∈ q_crs, 1 ≤ e.1 ∧ e.1 < 63 ∧ 1 ≤ e.2.2 ∧ gR lwG (e.1 - 1) e.2.1 = some (e.2.2 - 1) by decide +kernel) e he
      rw [((c e.1 k1 k2).2.2 e.2.1).2.2, k4]
      show some (1 + (e.2.2 - 1)) = _
      rw [show 1 + (e.2.2 - 1) = e.2.2 by omega]
  have gi : ∀ a k, 1 ≤ a → a < 63 → gI D a k = gI lwG (a - 1) k := fun a k h1 h2 => ((c a h1 h2).2.2 k).1
  have gl : ∀ a k, 1 ≤ a → a < 63 → gL D a k = gL lwG (a - 1) k := fun a k h1 h2 => ((c a h1 h2).2.2 k).2.1
  have gr : ∀ a k, 1 ≤ a → a < 63 → gR lwG (a - 1) k = none → gR D a k = none := fun a k h1 h2 z => by rw [((c a h1 h2).2.2 k).2.2, z]; rfl
  have g23 : ∀ p, p < 2 → gR D 23 p = none := fun p hp => gr 23 p (by omega) (by omega) ((show ∀ p, p < 2 → gR lwG 22 p = none by decide +kernel) p hp)
  have z50 : ∀ i, gL D 50 i = 0 := fun i => (gl 50 i (by omega) (by omega)).trans (lw_50 i)
  have pv0 : PV (fun _ => 0) := ⟨⟨⟨Nat.zero_le 8, fun i hi => absurd hi (Nat.not_lt_zero _)⟩, fun j hj => ⟨Nat.zero_le 1, Nat.zero_le 6, fun z => absurd (show (0 : Nat) = 1 from z) (by decide)⟩⟩, ⟨Nat.zero_le 200, fun x hx => Nat.le_refl 0⟩, fun _ => rfl⟩
  refine ⟨fun _ => 0, fun _ => 0, fun _ => 0, 0, fun _ => false, fun _ _ => 0, fun _ _ => 0, sh, ⟨r0.2.1, fun k hk => (r0.2.2 k).1⟩, fun p b hp z => (by rw [g23 p hp] at z; cases z), ⟨(gi 34 0 (by omega) (by omega)).trans (by decide +kernel), (gl 35 0 (by omega) (by omega)).trans (by decide +kernel)⟩, pv0, fun i h1 h2 => ⟨z50 i, (show (0 : Nat) < 2 ^ 62 by omega)⟩, fun j hj => (z50 _).trans (show (0 : Int64) = Int32.toInt64 0 by decide +kernel), ⟨⟨(gi 2 1 (by omega) (by omega)).trans (by decide +kernel), fun i hi => absurd hi (Nat.not_lt_zero _)⟩, fun j hj => (gi 5 j (by omega) (by omega)).trans ((show ∀ j, j < 6 → gI lwG 4 j = 0 by decide +kernel) j hj), ⟨(gi 6 2 (by omega) (by omega)).trans (by decide +kernel), (gl 6 3 (by omega) (by omega)).trans (by decide +kernel), fun k hk => absurd hk (Nat.not_lt_zero _)⟩, fun j hj => Or.inl ⟨rfl, ?_⟩, ⟨Nat.zero_le 300, fun _ _ => 0, ⟨(gi 9 2 (by omega) (by omega)).trans (by decide +kernel), (gi 9 3 (by omega) (by omega)).trans (by decide +kernel), fun k hk => absurd hk (Nat.not_lt_zero _)⟩, fun k hk => absurd hk (Nat.not_lt_zero _), rfl⟩, fun k hk => ⟨Nat.zero_le 3, fun z => absurd (show (0 : Nat) = 3 from z) (by decide), ?_, fun z => absurd (show (1 : Nat) ≤ 0 from z) (by decide), fun z => absurd (show (1 : Nat) ≤ 0 from z) (by decide)⟩, fun j hj _ => ?_⟩, ⟨(gi 49 20 (by omega) (by omega)).trans (by decide +kernel), Nat.zero_le 2700, fun k hk => absurd hk (Nat.not_lt_zero _)⟩, ⟨(gi 1 3 (by omega) (by omega)).trans (by decide +kernel), Nat.zero_le 2700, fun k hk => absurd hk (Nat.not_lt_zero _)⟩, fun p hp => (gi 52 p (by omega) (by omega)).trans ((show ∀ p, p < 2 → gI lwG 51 p = nI (bN false) by decide +kernel) p hp), fun p hp _ => g23 p hp, fun p hp z => (by cases z), fun b d hb _ => (by rw [g23 0 (by omega)] at hb; cases hb)⟩
  · exact gr (2 + 13 + 2 * j) 1 (by omega) (by omega) ((show ∀ j, j < 4 → gR lwG (2 + 13 + 2 * j - 1) 1 = none by decide +kernel) j hj)
  · exact (gi (2 + 10) k (by omega) (by omega)).trans ((show ∀ k, k < 8 → gI lwG (2 + 10 - 1) k = nI (if (fun _ => 0 : Nat → Nat) (1060 + 4 * k) = 0 then 3 else (fun _ => 0 : Nat → Nat) (1060 + 4 * k) - 1) by decide +kernel) k hk)
  · exact (gi (2 + 13 + 2 * j) 3 (by omega) (by omega)).trans ((show ∀ j, j < 4 → gI lwG (2 + 13 + 2 * j - 1) 3 = nI 0 by decide +kernel) j hj)
