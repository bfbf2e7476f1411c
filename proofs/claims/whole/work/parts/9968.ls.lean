/-! ===== THE CLASS: spans together ===== -/
theorem sm_at {f : Nat → Nat} {i n : Nat} (h : i < n) : sm f i + f i ≤ sm f n := by
  have := sm_mono (f := f) (i + 1) (n - (i + 1))
  rw [show i + 1 + (n - (i + 1)) = n by omega] at this
  exact this
theorem sm_lt {f : Nat → Nat} {a b : Nat} (h : a ≤ b) : sm f a ≤ sm f b := by
  have := sm_mono (f := f) a (b - a)
  rw [show a + (b - a) = b by omega] at this
  exact this
theorem sm_z2 {f : Nat → Nat} {a b : Nat} (h : a ≤ b) (z : ∀ i, a ≤ i → i < b → f i = 0) : sm f b = sm f a := by
  have := sm_z (f := f) a (b - a) (fun i h1 h2 => z i h1 (by omega))
  rw [show a + (b - a) = b by omega] at this
  exact this
def sqH (v : Nat → Nat) (i s a : Nat) : Nat := if a < 2 then s - 1 else cB (cK v i) ^ cL v i a - 1
theorem sq_w {v : Nat → Nat} {i : Nat} (hc : okI v i) {s : Nat} (s1 : 1 ≤ s) (s64 : s ≤ 64) : ∀ a, a < 3 → (fun _ => 0 : Nat → Nat) a ≤ sqH v i s a ∧ sqH v i s a < 2 ^ 20 := fun a ha => by
  have := room_le hc ha
  unfold sqH
  refine ⟨Nat.zero_le _, ?_⟩
  split <;> omega
theorem sq_pr {v : Nat → Nat} {i : Nat} (hc : okI v i) {s n : Nat} (s1 : 1 ≤ s) (hn : n < cS v i) : Pr (cmI v i) (lsm (cL v i)) 1 (fun _ => 0) (sqH v i s) n ↔ isq v i s n = true := by
  have rm : ∀ a, a < 3 → plI v i n a < cB (cK v i) ^ cL v i a := fun a ha => by
    rw [(cS_pw hc).1] at hn
    exact in0.mp (plc_in (gdI hc) hn).1 a ha
  constructor
  · rintro (⟨_, q⟩ | ⟨q, _⟩)
    · apply decide_eq_true
      have a0 := (q 0 (by omega)).2
      have a1 := (q 1 (by omega)).2
      have b0 : plI v i n 0 ≤ s - 1 := a0
      have b1 : plI v i n 1 ≤ s - 1 := a1
      omega
    · cases q
  · intro q
    have q := of_decide_eq_true q
    refine Or.inl ⟨rfl, fun a ha => ⟨Nat.zero_le _, ?_⟩⟩
    show plI v i n a ≤ sqH v i s a
    have := rm a ha
    rcases (show a = 0 ∨ a = 1 ∨ a = 2 by omega) with rfl | rfl | rfl
    · show _ ≤ s - 1; omega
    · show _ ≤ s - 1; omega
    · show _ ≤ cB (cK v i) ^ cL v i 2 - 1; omega
def sqQ (v : Nat → Nat) (i s n : Nat) : Nat := if isq v i s n = true then 1 else 0
def sqG (v : Nat → Nat) (i s w h n : Nat) : Nat := if isq v i s n = true then sqF v i s w h n else 0
theorem K_st69 {v : Nat → Nat} {i : Nat} (hi : i < 8) (hc : okI v i) (hd : cD v i = 2) {s w h : Nat} (s1 : 1 ≤ s) (s64 : s ≤ 64) (r0 : s ≤ cB (cK v i) ^ cL v i 0) (r1 : s ≤ cB (cK v i) ^ cL v i 1) (w1 : 1 ≤ w) (hw : w ≤ s) (h1 : 1 ≤ h) (hh : h ≤ s) {o T : Nat} {q1 : Option Nat} (hT : sm (sqG v i s w h) (cS v i) ≤ T) : ∀ m k, k + m = s * s → ∀ n, n < cS v i → isq v i s n = true → sm (sqQ v i s) (n + 1) = k → ∀ {M : q_M}, WK M o (cK v i) (cD v i) (cL v i) i → WV M (fun _ => 0) (sqH v i s) → PT M (cmI v i) (lsm (cL v i)) n (lsm (cL v i)) → ∀ d6 d8 d10 d11 d12 d13, ∃ M1, q_RL T_X11_spansTogether (69, [some (.inr (.inr (some 1))), some (.inr (.inr q1)), some (.inl (nI s)), some (.inl (nI w)), some (.inl (nI h)), some (.inr (.inl (lN (T - sm (sqG v i s w h) (n + 1))))), d6, some (.inr (.inl (lN n))), d8, some (.inl (nI k)), d10, d11, d12, d13], [], M) = some (some (.inr (.inl (lN (T - sm (sqG v i s w h) (cS v i))))), M1) ∧ WF M M1 := by
  have ss : s * s ≤ 64 * 64 := Nat.mul_le_mul s64 s64
  have c62 := cS_62 hc
  have cq : sm (sqQ v i s) (cS v i) = s * s := sq_cnt hi hc hd r0 r1
  have qz : ∀ n, n < cS v i → sm (sqQ v i s) (n + 1) = s * s → sm (sqG v i s w h) (cS v i) = sm (sqG v i s w h) (n + 1) := fun n hn e => by
    refine sm_z2 (by omega) (fun x hx1 hx2 => ?_)
    have a1 := sm_at (f := sqQ v i s) hx2
    have a2 := sm_lt (f := sqQ v i s) hx1
    have a3 : sqQ v i s x = 0 := by omega
    unfold sqQ at a3
    unfold sqG
    rw [if_neg]
    intro z
    rw [if_pos z] at a3
    omega
  intro m
  induction m with
  | zero =>
    intro k hk n hn hq hs M wk wv pt d6 d8 d10 d11 d12 d13
    rw [Nat.add_zero] at hk
    refine ⟨M, ?_, WF.rf M⟩
    rw [E_X11_spansTogether_69, pk_mul, if_pos (nI_le (by omega) (by omega)), qz n hn (by omega)]
  | succ m ih =>
    intro k hk n hn hq hs M wk wv pt d6 d8 d10 d11 d12 d13
    have hM := wk.1
    obtain ⟨q, M1, u1, u2, u3, u4⟩ := K_onward (c := o) (i := i) hc.1 (o := 1) (Or.inr rfl) (sq_w hc s1 s64) wk wv (n := n) (by rw [okI_S hc]; exact hn) pt
    rw [okI_S hc] at u2
    cases q with
    | none =>
      exfalso
      have z : sm (sqQ v i s) (cS v i) = sm (sqQ v i s) (n + 1) := sm_z2 (by omega) (fun x hx1 hx2 => by
        unfold sqQ
        rw [if_neg]
        intro z
        exact u2 x hx1 hx2 ((sq_pr hc s1 hx2).mpr z))
      omega
    | some N =>
      obtain ⟨n1, n2, n3, n4⟩ := u2
      have qN : isq v i s N = true := (sq_pr hc s1 n2).mp n3
      have bz : ∀ x, n + 1 ≤ x → x < N → ¬ isq v i s x = true := fun x h1 h2 z => n4 x h1 h2 ((sq_pr hc s1 (by omega)).mpr z)
      have eQ : sm (sqQ v i s) (N + 1) = k + 1 := by
        have z : sm (sqQ v i s) N = sm (sqQ v i s) (n + 1) := sm_z2 (by omega) (fun x hx1 hx2 => by unfold sqQ; rw [if_neg (bz x hx1 hx2)])
        show sm (sqQ v i s) N + sqQ v i s N = _
        have : sqQ v i s N = 1 := by unfold sqQ; rw [if_pos qN]
        omega
      have eG : sm (sqG v i s w h) (N + 1) = sm (sqG v i s w h) (n + 1) + sqF v i s w h N := by
        have z : sm (sqG v i s w h) N = sm (sqG v i s w h) (n + 1) := sm_z2 (by omega) (fun x hx1 hx2 => by unfold sqG; rw [if_neg (bz x hx1 hx2)])
        show sm (sqG v i s w h) N + sqG v i s w h N = _
        have : sqG v i s w h N = sqF v i s w h N := by unfold sqG; rw [if_pos qN]
        omega
      have leG : sm (sqG v i s w h) (N + 1) ≤ sm (sqG v i s w h) (cS v i) := sm_lt (by omega)
      have wk1 := u3.wk wk
      have hM1 := wk1.1
      have pt1 := u4 _ rfl
      have q0 := of_decide_eq_true hq
      have qN' := of_decide_eq_true qN
      have l0 : ∀ a, a < 3 → q_CL 72 [.inr (.inr (some 25)), .inl (nI a)] M = some (some (.inl (nI (plI v i n a))), M) := fun a ha => K_leaf hc.1 wk pt ha
      have l1 : ∀ a, a < 3 → q_CL 72 [.inr (.inr (some 25)), .inl (nI a)] M1 = some (some (.inl (nI (plI v i N a))), M1) := fun a ha => K_leaf hc.1 wk1 pt1 ha
      rw [E_X11_spansTogether_69, pk_mul, if_neg (nI_ge (by omega) (by omega))]
      simp only [c_now hM (show (1, 4, 25) ∈ q_crs by decide), Option.bind_some, w_sel hM, l0 0 (by omega), l0 1 (by omega), z_rI, u1, z_rL, c_now hM1 (show (1, 4, 25) ∈ q_crs by decide), w_sel hM1, l1 0 (by omega), l1 1 (by omega), lg_cmp_eq, lN_add, nI_1]
      by_cases c : N = n + 1
      · have eF : sqF v i s w h N = am2 (plI v i n 0) (plI v i N 0) s w * am2 (plI v i n 1) (plI v i N 1) s h := by
          unfold sqF
          rw [if_neg (by omega), show N - 1 = n by omega, if_pos q0, am2_c, am2_c (plI v i N 1)]
        have b1 : am2 (plI v i n 0) (plI v i N 0) s w < 2 ^ 31 := by
          have := am2_le (plI v i n 0) (plI v i N 0) s w
          have := am_le (plI v i n 0) (plI v i n 0) s w
          omega
        have b2 : am2 (plI v i n 1) (plI v i N 1) s h < 2 ^ 31 := by
          have := am2_le (plI v i n 1) (plI v i N 1) s h
          have := am_le (plI v i n 1) (plI v i n 1) s h
          omega
        obtain ⟨M2, t1, t2⟩ := ih (k + 1) (by omega) N n2 qN eQ wk1 (u3.wv wv) pt1 none none (some (.inl (nI (plI v i n 0)))) (some (.inl (nI (plI v i n 1)))) (some (.inr (.inl (lN N)))) none
        refine ⟨M2, ?_, u3.tr t2⟩
        rw [if_pos (show (rL (some N)) = lN (n + 1) by rw [← c]; rfl)]
        simp only [K_wb (M := M1) (show plI v i n 0 < 64 by omega) (show plI v i N 0 < 64 by omega) s64 w1 hw, K_wb (M := M1) (show plI v i n 1 < 64 by omega) (show plI v i N 1 < 64 by omega) s64 h1 hh, z_rI, Option.bind_some, c_now hM1 (show (1, 4, 25) ∈ q_crs by decide), w_sel hM1, l1 1 (by omega), nI_l b1, nI_l b2, lN_mul]
        rw [lN_sub (by omega), ← eF, show T - sm (sqG v i s w h) (n + 1) - sqF v i s w h N = T - sm (sqG v i s w h) (N + 1) by omega]
        exact t1
      · have eF : sqF v i s w h N = 0 := by
          unfold sqF
          rw [if_neg (by omega), if_neg]
          intro z
          exact bz (N - 1) (by omega) (by omega) (decide_eq_true z)
        obtain ⟨M2, t1, t2⟩ := ih (k + 1) (by omega) N n2 qN eQ wk1 (u3.wv wv) pt1 (q_kill d6) none (some (.inl (nI (plI v i n 0)))) (some (.inl (nI (plI v i n 1)))) (some (.inr (.inl (lN N)))) none
        refine ⟨M2, ?_, u3.tr t2⟩
        rw [if_neg (show ¬ rL (some N) = lN (n + 1) from fun z => c ((pk_lEQ (show N < 2 ^ 63 by omega) (show n + 1 < 2 ^ 63 by omega)).mp z)), show T - sm (sqG v i s w h) (n + 1) = T - sm (sqG v i s w h) (N + 1) by omega]
        exact t1
