/-! ===== A STEP OF THE PURE MACHINE IS A STEP OF THE MACHINE ===== -/
def q_leM (M M1 : q_M) : Prop := M.2.2.2.2.2.1 ≤ M1.2.2.2.2.2.1 ∧ M.2.2.2.2.2.2 ≤ M1.2.2.2.2.2.2
theorem q_leM.rf {M : q_M} : q_leM M M := ⟨Nat.le_refl _, Nat.le_refl _⟩
theorem q_leM.tr {M M1 M2 : q_M} (h : q_leM M M1) (g : q_leM M1 M2) : q_leM M M2 := ⟨Nat.le_trans h.1 g.1, Nat.le_trans h.2 g.2⟩
theorem q_gI_some {ls : q_L} {i : Nat} {f : Int32 → Option q_O} {o : q_O} (h : q_gI ls i f = some o) : ∃ x, q_nth ls i = some (.inl x) ∧ f x = some o := by
  unfold q_gI at h
  split at h
  · rename_i x hx
    exact ⟨x, hx, h⟩
  · cases h
theorem q_gL_some {ls : q_L} {i : Nat} {f : Int64 → Option q_O} {o : q_O} (h : q_gL ls i f = some o) : ∃ x, q_nth ls i = some (.inr (.inl x)) ∧ f x = some o := by
  unfold q_gL at h
  split at h
  · rename_i x hx
    exact ⟨x, hx, h⟩
  · cases h
theorem q_gR_some {ls : q_L} {i : Nat} {f : Option Nat → Option q_O} {o : q_O} (h : q_gR ls i f = some o) : ∃ x, q_nth ls i = some (.inr (.inr x)) ∧ f x = some o := by
  unfold q_gR at h
  split at h
  · rename_i x hx
    exact ⟨x, hx, h⟩
  · cases h
theorem q_pI_some {st : List q_V} {f : Int32 → List q_V → Option q_O} {o : q_O} (h : q_pI st f = some o) : ∃ x r, st = .inl x :: r ∧ f x r = some o := by
  unfold q_pI at h
  split at h
  · exact ⟨_, _, rfl, h⟩
  · cases h
theorem q_pL_some {st : List q_V} {f : Int64 → List q_V → Option q_O} {o : q_O} (h : q_pL st f = some o) : ∃ x r, st = .inr (.inl x) :: r ∧ f x r = some o := by
  unfold q_pL at h
  split at h
  · exact ⟨_, _, rfl, h⟩
  · cases h
theorem q_pR_some {st : List q_V} {f : Option Nat → List q_V → Option q_O} {o : q_O} (h : q_pR st f = some o) : ∃ x r, st = .inr (.inr x) :: r ∧ f x r = some o := by
  unfold q_pR at h
  split at h
  · exact ⟨_, _, rfl, h⟩
  · cases h
theorem q_bin_some {st : List q_V} {f : Int32 → Int32 → Int32} {k : List q_V → Option q_O} {o : q_O} (h : q_bin st f k = some o) : ∃ x z r, st = .inl z :: .inl x :: r ∧ k (.inl (f x z) :: r) = some o := by
  obtain ⟨z, r, rfl, h1⟩ := q_pI_some h
  obtain ⟨x, r2, rfl, h2⟩ := q_pI_some h1
  exact ⟨x, z, r2, rfl, h2⟩
theorem q_binL_some {st : List q_V} {f : Int64 → Int64 → Int64} {k : List q_V → Option q_O} {o : q_O} (h : q_binL st f k = some o) : ∃ x z r, st = .inr (.inl z) :: .inr (.inl x) :: r ∧ k (.inr (.inl (f x z)) :: r) = some o := by
  obtain ⟨z, r, rfl, h1⟩ := q_pL_some h
  obtain ⟨x, r2, rfl, h2⟩ := q_pL_some h1
  exact ⟨x, z, r2, rfl, h2⟩
theorem q_args_some {f : List q_V → List q_V → Option q_O} {o : q_O} : ∀ {n : Nat} {st acc : List q_V}, q_args n st acc f = some o → ∃ as rest, as.length = n ∧ st = as.reverse ++ rest ∧ f (as ++ acc) rest = some o
  | 0, st, acc, h => ⟨[], st, rfl, rfl, h⟩
  | n + 1, [], acc, h => by cases h
  | n + 1, v :: st, acc, h => by
    obtain ⟨as, rest, h1, h2, h3⟩ := q_args_some (n := n) (st := st) (acc := v :: acc) h
    refine ⟨as ++ [v], rest, by simp [h1], by simp [h2], ?_⟩
    rw [List.append_assoc]
    exact h3
theorem q_swt_some {x : Int32} {d : Nat} {f : Nat → Option q_O} {o : q_O} : ∀ {ts : List Nat} {j : Nat}, q_swt x d f j ts = some o → (∃ i t, ts[i]? = some t ∧ x = Int32.ofNat (j + i) ∧ f t = some o) ∨ ((∀ i, i < ts.length → x ≠ Int32.ofNat (j + i)) ∧ f d = some o)
  | [], j, h => Or.inr ⟨fun i hi => by simp at hi, h⟩
  | t :: r, j, h => by
    unfold q_swt at h
    split at h
    · rename_i e
      exact Or.inl ⟨0, t, rfl, e, h⟩
    · rename_i e
      rcases q_swt_some (ts := r) (j := j + 1) h with ⟨i, t2, h1, h2, h3⟩ | ⟨h1, h2⟩
      · exact Or.inl ⟨i + 1, t2, h1, by rw [h2]; congr 1; omega, h3⟩
      · refine Or.inr ⟨fun i hi => ?_, h2⟩
        cases i with
        | zero => exact e
        | succ i =>
          have := h1 i (by simpa using hi)
          rw [show j + (i + 1) = j + 1 + i by omega]
          exact this
theorem q_sel_some {M : q_M} {a y : Nat} : ∀ {ts : List (Nat × Nat)}, q_sel M ts a = some y → ∃ t, (t, y) ∈ ts ∧ M.1 a = t
  | [], h => by cases h
  | (t, z) :: r, h => by
    unfold q_sel at h
    split at h
    · rename_i e
      cases h
      exact ⟨t, List.mem_cons_self, e⟩
    · obtain ⟨t2, h1, h2⟩ := q_sel_some (ts := r) h
      exact ⟨t2, List.mem_cons_of_mem _ h1, h2⟩
/-- what is known of calls -/
def q_SC (l : Launch) (G : q_G) (L : Nat) (xs : Nat → Int32) (C : q_C) : Prop := ∀ y as M v M1, C y as M = some (v, M1) → q_leM M M1 ∧ ∀ T d, q_get q_mt y = some T → q_get q_md y = some d → q_Mt l G L xs d.1 d.2.1 d.2.2.1 d.2.2.2 T.2.2.2.2.2.1 T.2.2.2.2.2.2 as M v M1
/-- the ends of methods -/
def q_rts (k : Nat) (i : Instr) (st : List q_V) (r : Option q_V) : Prop := (k = 0 ∧ i = .return_ ∧ st = [] ∧ r = none) ∨ (∃ x, (k = 1 ∨ (k = 4 ∧ (x = 0 ∨ x = 1))) ∧ i = .ireturn ∧ st = [.inl x] ∧ r = some (.inl x)) ∨ (∃ x, k = 2 ∧ i = .lreturn ∧ st = [.inr (.inl x)] ∧ r = some (.inr (.inl x))) ∨ ∃ x, k = 3 ∧ i = .areturn ∧ st = [.inr (.inr x)] ∧ r = some (.inr (.inr x))
/-- the one instruction of which the kit has no row -/
def q_Mu (l : Launch) (G : q_G) (L : Nat) (xs : Nat → Int32) : Prop := ∀ (y : MethodName) (bytes : ByteArray) (fr lo pc : Nat) (ls : q_L) (st : List q_V) (M M1 : q_M) (n k : Int32), y.cls = q_on 10 → decode bytes pc = .ok (.multianewarray 9 2, 4) → q_new2 M n k = some M1 → q_Re l G L xs y bytes fr lo pc ls (.inl k :: .inl n :: st) M (pc + 4) ls (.inr (.inr (some M.2.2.2.2.2.1)) :: st) M1
theorem q_and {a b : Bool} (h : (a && b) = true) : a = true ∧ b = true := by rw [Bool.and_eq_true] at h; exact h
section QS
variable {l : Launch} {G : q_G} {L : Nat} {xs : Nat → Int32} {C : q_C}
theorem q_sim_call (hT : q_Tb) (hC : q_SC l G L xs C) {T : q_T} {y : MethodName} {bytes : ByteArray} (hy : q_on T.1 = y.cls) {i : Instr} {idx aux pc : Nat} (hd : decode bytes pc = .ok (i, 3)) (hk : (T.1, idx, aux) ∈ q_ck) (hi : (i = .invokestatic idx ∧ (q_ckd aux = 0 ∨ 4 ≤ q_ckd aux)) ∨ (i = .invokevirtual idx ∧ q_ckd aux = 1) ∨ (i = .invokespecial idx ∧ (q_ckd aux = 2 ∨ q_ckd aux = 3))) {ls : q_L} {st : List q_V} {M : q_M} {k : q_K} {o : q_O} (h : q_call q_ct C T aux pc ls st M k = some o) :
    ∃ st1 M1, k (pc + 3) ls st1 M1 = some o ∧ q_leM M M1 ∧ q_Re l G L xs y bytes T.2.2.2.2.2.1 T.2.2.2.2.2.2 pc ls st M (pc + 3) ls st1 M1 := by
  obtain ⟨-, hG, -, hck, -, -, -, -, -, hob, hcp, hma⟩ := hT
  have hp := hck _ hk
  simp only at hp
  unfold q_ckP at hp
  unfold q_call at h
  unfold q_ckd at hi
  rw [hy] at hp
  generalize q_get q_ct aux = en at h hp hi
  rcases en with _ | ⟨kd, n, rt, fr, lo, ts⟩
  · cases h
  simp only at h hp hi
  obtain ⟨as, rest, hl, rfl, hh⟩ := q_args_some h
  replace h := hh
  rw [List.append_nil] at h
  -- the answer of a call
  have hres : ∀ (yy : Nat) (as2 rest2 : List q_V), q_res rt (C yy as2 M) (pc + 3) ls rest2 k = some o → ∃ v M1, C yy as2 M = some (v, M1) ∧ k (pc + 3) ls (v.toList ++ rest2) M1 = some o := by
    intro yy as2 rest2 h
    unfold q_res at h
    cases hc : C yy as2 M with
    | none =>
      rw [hc] at h
      split at h <;> cases h
    | some q =>
      obtain ⟨v, M1⟩ := q
      rw [hc] at h
      refine ⟨v, M1, rfl, ?_⟩
      rcases v with _ | (x | x | x)
      · split at h
        · exact h
        · cases h
        · cases h
        · cases h
      · split at h
        · cases h
        · exact h
        · cases h
        · cases h
      · split at h
        · cases h
        · cases h
        · exact h
        · cases h
      · split at h
        · cases h
        · cases h
        · cases h
        · exact h
  have hok : ∀ rest2 : List q_V, q_ok T fr lo rest2 = true → q_cats rest2 ≤ 8 ∧ fr + 1 ≤ T.2.2.2.2.2.1 ∧ 8 + lo ≤ T.2.2.2.2.2.2 := by
    intro rest2 h
    unfold q_ok at h
    obtain ⟨h1, h2⟩ := q_and h
    obtain ⟨h2, h3⟩ := q_and h2
    exact ⟨Nat.le_of_ble_eq_true h1, Nat.le_of_ble_eq_true h2, Nat.le_of_ble_eq_true h3⟩
  rcases hi with ⟨rfl, rfl | hkd⟩ | ⟨rfl, rfl⟩ | ⟨rfl, rfl | rfl⟩
  · -- static
    simp only at h hp
    rcases ts with _ | ⟨⟨t0, yy⟩, ts⟩
    · cases h
    simp only at h
    split at h
    · rename_i hq
      obtain ⟨o1, o2, o3⟩ := hok _ hq
      obtain ⟨v, M1, h1, h2⟩ := hres _ _ _ h
      obtain ⟨⟨T1, d1, e1, e2, e3, e4, e5⟩, e6, e7⟩ := hp t0 yy ts rfl
      have hnm : q_nm yy = d1.1 := by unfold q_nm; rw [e2]
      rw [hnm] at e6 e7
      obtain ⟨g1, g2⟩ := hC _ _ _ _ _ h1
      exact ⟨_, M1, h2, g1, q_r_callS hG hd (g2 T1 d1 e1 e2) (hl ▸ e3) e6 e7 (by omega) (by omega) o1⟩
    · cases h
  · -- natives and Math
    rcases (show kd = 4 ∨ kd = 5 ∨ kd = 6 ∨ kd = 7 ∨ kd = 8 ∨ 9 ≤ kd by omega) with rfl | rfl | rfl | rfl | rfl | hk9
    · simp only at h hp
      split at h
      · rename_i r1 sp r2 dp n2
        split at h
        · rename_i hq
          obtain ⟨q1, q2⟩ := q_and hq
          obtain ⟨q2, q3⟩ := q_and q2
          obtain ⟨a, rfl, h3⟩ := Option.bind_eq_some_iff.mp h
          obtain ⟨b, rfl, h4⟩ := Option.bind_eq_some_iff.mp h3
          obtain ⟨M1, hm, h5⟩ := Option.bind_eq_some_iff.mp h4
          have hle : q_leM M M1 := by
            unfold q_copy at hm
            split at hm
            · split at hm
              · cases hm
                exact q_leM.rf
              · split at hm
                · cases hm
                  exact q_leM.rf
                · cases hm
            · cases hm
          exact ⟨_, M1, h5, hle, q_r_copy hd hp hcp.1 hcp.2.1 hcp.2.2 (Nat.le_of_ble_eq_true q1) (Nat.le_of_ble_eq_true q2) (Nat.le_of_ble_eq_true q3) hm⟩
        · cases h
      · cases h
    · simp only at h hp
      split at h
      · rename_i x z
        split at h
        · rename_i hq
          obtain ⟨q1, q2⟩ := q_and hq
          obtain ⟨q2, q3⟩ := q_and q2
          exact ⟨_, M, h, q_leM.rf, q_r_mmax hd hp hma.2.1.1 hma.1 hma.2.1.2 (Nat.le_of_ble_eq_true q1) (Nat.le_of_ble_eq_true q2) (Nat.le_of_ble_eq_true q3)⟩
        · cases h
      · cases h
    · simp only at h hp
      split at h
      · rename_i x z
        split at h
        · rename_i hq
          obtain ⟨q1, q2⟩ := q_and hq
          obtain ⟨q2, q3⟩ := q_and q2
          exact ⟨_, M, h, q_leM.rf, q_r_mmin hd hp hma.2.2.1.1 hma.1 hma.2.2.1.2 (Nat.le_of_ble_eq_true q1) (Nat.le_of_ble_eq_true q2) (Nat.le_of_ble_eq_true q3)⟩
        · cases h
      · cases h
    · simp only at h hp
      split at h
      · rename_i x
        split at h
        · rename_i hq
          obtain ⟨q1, q2⟩ := q_and hq
          obtain ⟨q2, q3⟩ := q_and q2
          exact ⟨_, M, h, q_leM.rf, q_r_mabs hd hp hma.2.2.2.1.1 hma.1 hma.2.2.2.1.2 (Nat.le_of_ble_eq_true q1) (Nat.le_of_ble_eq_true q2) (Nat.le_of_ble_eq_true q3)⟩
        · cases h
      · cases h
    · simp only at h hp
      split at h
      · rename_i x z
        split at h
        · rename_i hq
          obtain ⟨q1, q2⟩ := q_and hq
          obtain ⟨q2, q3⟩ := q_and q2
          exact ⟨_, M, h, q_leM.rf, q_r_mmaxL hd hp hma.2.2.2.2.1 hma.1 hma.2.2.2.2.2 (Nat.le_of_ble_eq_true q1) (Nat.le_of_ble_eq_true q2) (Nat.le_of_ble_eq_true q3)⟩
        · cases h
      · cases h
    · exfalso
      split at hp
      all_goals first | omega | exact hp
  · -- virtual
    simp only at h hp
    obtain ⟨r0, rest2, rfl, h3⟩ := q_pR_some h
    obtain ⟨a, rfl, h4⟩ := Option.bind_eq_some_iff.mp h3
    replace h := h4
    split at h
    · rename_i hq
      obtain ⟨o1, o2, o3⟩ := hok _ hq
      obtain ⟨yy, hs, h5⟩ := Option.bind_eq_some_iff.mp h
      obtain ⟨t, hs1, hs2⟩ := q_sel_some hs
      obtain ⟨v, M1, h1, h2⟩ := hres _ _ _ h5
      obtain ⟨ht, ⟨T1, d1, e1, e2, e3, e4, e5⟩, e6⟩ := hp (t, yy) hs1
      have hnm : q_nm yy = d1.1 := by unfold q_nm; rw [e2]
      simp only at ht e6
      rw [hnm, ← hs2] at e6
      obtain ⟨g1, g2⟩ := hC _ _ _ _ _ h1
      exact ⟨_, M1, h2, g1, q_r_callV hG hd (g2 T1 d1 e1 e2) (hl ▸ e3) (by omega) e6 (by omega) (by omega) o1⟩
    · cases h
  · -- constructor
    simp only at h hp
    obtain ⟨r0, rest2, rfl, h3⟩ := q_pR_some h
    obtain ⟨a, rfl, h4⟩ := Option.bind_eq_some_iff.mp h3
    replace h := h4
    rcases ts with _ | ⟨⟨t0, yy⟩, ts⟩
    · cases h
    simp only at h
    split at h
    · rename_i hq
      obtain ⟨o1, o2, o3⟩ := hok _ hq
      obtain ⟨v, M1, h1, h2⟩ := hres _ _ _ h
      obtain ⟨⟨T1, d1, e1, e2, e3, e4, e5⟩, e6, e7, e8, e9⟩ := hp t0 yy ts rfl
      have hnm : q_nm yy = d1.1 := by unfold q_nm; rw [e2]
      rw [hnm] at e6 e8 e9
      have e7 := e7 d1 e2
      obtain ⟨g1, g2⟩ := hC _ _ _ _ _ h1
      have g2 := g2 T1 d1 e1 e2
      rw [e7] at g2 e3
      exact ⟨_, M1, h2, g1, q_r_callI (n := 0) hG hd g2 (hl ▸ e3) e6 e8 e9 (by omega) (by omega) o1⟩
    · cases h
  · -- Object.<init>
    simp only at h hp
    have e9 : as = [] := List.eq_nil_of_length_eq_zero (hl.trans hp.1)
    subst e9
    obtain ⟨r0, rest2, rfl, h3⟩ := q_pR_some h
    obtain ⟨a, rfl, h4⟩ := Option.bind_eq_some_iff.mp h3
    replace h := h4
    split at h
    · rename_i hq
      obtain ⟨q1, q2⟩ := q_and hq
      obtain ⟨q2, q3⟩ := q_and q2
      exact ⟨_, M, h, q_leM.rf, q_r_obj hd hp.2 hob.1 hob.2 (Nat.le_of_ble_eq_true q1) (Nat.le_of_ble_eq_true q2) (Nat.le_of_ble_eq_true q3)⟩
    · cases h
end QS
