/-! ===== THE REFERENCE: the order of a curve's axes ===== -/
/-- what lays leaves -/
def LYr (M : q_M) (K d : Nat) (L : Nat → Nat) : Prop := gI M 49 3 = nI (if K = 2 then 2 ^ d else cB K) ∧ (K = 2 → gI M 49 4 = nI (L 0)) ∧ (K ≠ 2 → AXr M (owK K L))
def fB (L : Nat → Nat) (b a : Nat) : List Nat := ([0, 1, 2].drop a).filter fun a => decide (b < L a)
theorem fB_s (L : Nat → Nat) (b : Nat) {a : Nat} (ha : a < 3) : fB L b a = if b < L a then a :: fB L b (a + 1) else fB L b (a + 1) := by
  rcases (show a = 0 ∨ a = 1 ∨ a = 2 by omega) with rfl | rfl | rfl <;>
    (unfold fB; simp only [List.drop_zero, List.drop_succ_cons, List.filter_cons, decide_eq_true_eq])
theorem fB_e {L : Nat → Nat} {d : Nat} (hd : d = 2 ∨ d = 3) (kz : ∀ a, d ≤ a → a < 3 → L a = 0) (b : Nat) : fB L b d = [] := by
  rcases hd with rfl | rfl
  · rw [fB_s L b (by omega), if_neg (by rw [kz 2 (by omega) (by omega)]; omega)]; rfl
  · rfl
theorem app_push {l r t : List Nat} {x : Nat} (h : l ++ (x :: r) = t) : (l ++ [x]) ++ r = t := by rw [← h, List.append_assoc]; rfl
theorem app_len {l r t : List Nat} {x : Nat} (h : l ++ (x :: r) = t) : l.length < t.length := by
  rw [← h, List.length_append, List.length_cons]; omega
theorem R_weave {v : Nat → Nat} {i : Nat} (hi : i < 8) (hc : okI v i) {T : List Nat} (hT : T.length ≤ 60) : ∀ b, b ≤ 20 → ∀ M l d4, SH M → RI M v → AXr M l → l ++ owN (cL v i) b = T → ∃ M1, q_RL T_X12_lays (182, [some (.inr (.inr (some 49))), some (.inl (nI i)), some (.inl (nI (cD v i))), some (.inl (nI b + (-1))), d4], [], M) = some (none, M1) ∧ FM M M1 ∧ gI M1 49 3 = gI M 49 3 ∧ AXr M1 T := by
  obtain ⟨⟨k4, kd, kL, _, kz, _, k3⟩, _⟩ := hc
  intro b
  induction b with
  | zero =>
    intro _ M l d4 h r a e
    refine ⟨M, ?_, FM.rf M, rfl, ?_⟩
    · rw [E_X12_lays_182, if_pos (by decide +kernel)]
    · rw [← e]; show AXr M (l ++ []); rw [List.append_nil]; exact a
  | succ b ih =>
    intro hb M l d4 h r a e
    rw [E_X12_lays_182, pk_m1, if_neg (nI_pos (by omega))]
    have inner : ∀ n x, x + n = cD v i → ∀ M l, SH M → RI M v → AXr M l → l ++ (fB (cL v i) b x ++ owN (cL v i) b) = T → ∃ M1, q_RL T_X12_lays (189, [some (.inr (.inr (some 49))), some (.inl (nI i)), some (.inl (nI (cD v i))), some (.inl (nI b)), some (.inl (nI x))], [], M) = some (none, M1) ∧ FM M M1 ∧ gI M1 49 3 = gI M 49 3 ∧ AXr M1 T := by
      intro n
      induction n with
      | zero =>
        intro x hx M l h r a e
        rw [show x = cD v i by omega] at *
        rw [E_X12_lays_189, if_pos (nI_le (by omega) (by omega))]
        rw [fB_e kd kz, List.nil_append] at e
        exact ih (by omega) M l _ h r a e
      | succ n ihn =>
        intro x hx M l h r a e
        rw [E_X12_lays_189, if_neg (nI_ge (by omega) (by omega))]
        simp only [m_sel h, Option.bind_some, R_has h r hi (show x < 3 by omega), z_rI]
        rw [fB_s _ _ (show x < 3 by omega)] at e
        have hLx := kL x (by omega)
        by_cases hq : b < cL v i x
        · rw [if_pos hq, List.cons_append] at e
          rw [if_pos (nI_lt hq (by omega)), R_app h a (by have := app_len e; omega) x, nI_1]
          obtain ⟨M1, p1, p2, p3, p4⟩ := ihn (x + 1) (by omega) (stI (stI M 53 l.length (nI x)) 49 4 (nI (l.length + 1))) (l ++ [x]) h r (a.push x) (app_push e)
          refine ⟨M1, p1, ?_, ?_, p4⟩
          · exact (((FM.rf M).st (Or.inr (by omega))).st (Or.inl (by omega))).tr p2
          · rw [p3, gI_oth (by omega), gI_oth (by omega)]
        · rw [if_neg hq] at e
          rw [if_neg (nI_nlt (by omega) (by omega)), nI_1]
          exact ihn (x + 1) (by omega) M l h r a e
    exact inner (cD v i) 0 (by omega) M l h r a e
/-- the rows from axis a on -/
def fR (L : Nat → Nat) (a : Nat) : List Nat := (([0, 1, 2].drop a).map fun a => List.replicate (L a) a).flatten
theorem fR_s (L : Nat → Nat) {a : Nat} (ha : a < 3) : fR L a = List.replicate (L a) a ++ fR L (a + 1) := by
  rcases (show a = 0 ∨ a = 1 ∨ a = 2 by omega) with rfl | rfl | rfl <;> rfl
theorem fR_0 (L : Nat → Nat) : fR L 0 = owR L := by
  rw [fR_s L (by omega), fR_s L (by omega), fR_s L (by omega), show fR L 3 = [] from rfl, List.append_nil]; rfl
theorem fR_e {L : Nat → Nat} {d : Nat} (hd : d = 2 ∨ d = 3) (kz : ∀ a, d ≤ a → a < 3 → L a = 0) : fR L d = [] := by
  rcases hd with rfl | rfl
  · rw [fR_s L (by omega), kz 2 (by omega) (by omega)]; rfl
  · rfl
theorem R_rows {v : Nat → Nat} {i : Nat} (hi : i < 8) (hc : okI v i) {T : List Nat} (hT : T.length ≤ 60) : ∀ n x, x + n = cD v i → ∀ M l d4, SH M → RI M v → AXr M l → l ++ fR (cL v i) x = T → ∃ M1, q_RL T_X12_lays (125, [some (.inr (.inr (some 49))), some (.inl (nI i)), some (.inl (nI (cD v i))), some (.inl (nI x)), d4], [], M) = some (none, M1) ∧ FM M M1 ∧ gI M1 49 3 = gI M 49 3 ∧ AXr M1 T := by
  obtain ⟨⟨k4, kd, kL, _, kz, _, k3⟩, _⟩ := hc
  intro n
  induction n with
  | zero =>
    intro x hx M l d4 h r a e
    refine ⟨M, ?_, FM.rf M, rfl, ?_⟩
    · rw [E_X12_lays_125, if_pos (nI_le (by omega) (by omega))]
    · rw [show x = cD v i by omega, fR_e kd kz, List.append_nil] at e
      rw [← e]; exact a
  | succ n ih =>
    intro x hx M l d4 h r a e
    have hLx := kL x (by omega)
    rw [E_X12_lays_125, if_neg (nI_ge (by omega) (by omega))]
    have inner : ∀ m j, j + m = cL v i x → ∀ M l, SH M → RI M v → AXr M l → l ++ (List.replicate m x ++ fR (cL v i) (x + 1)) = T → ∃ M1, q_RL T_X12_lays (133, [some (.inr (.inr (some 49))), some (.inl (nI i)), some (.inl (nI (cD v i))), some (.inl (nI x)), some (.inl (nI j))], [], M) = some (none, M1) ∧ FM M M1 ∧ gI M1 49 3 = gI M 49 3 ∧ AXr M1 T := by
      intro m
      induction m with
      | zero =>
        intro j hj M l h r a e
        rw [E_X12_lays_133]
        simp only [m_sel h, Option.bind_some, R_has h r hi (show x < 3 by omega), z_rI]
        rw [if_pos (nI_le (by omega) (by omega)), nI_1]
        exact ih (x + 1) (by omega) M l _ h r a e
      | succ m ihm =>
        intro j hj M l h r a e
        rw [E_X12_lays_133]
        simp only [m_sel h, Option.bind_some, R_has h r hi (show x < 3 by omega), z_rI]
        rw [List.replicate_succ, List.cons_append] at e
        rw [if_neg (nI_ge (by omega) (by omega)), R_app h a (by have := app_len e; omega) x, nI_1]
        obtain ⟨M1, p1, p2, p3, p4⟩ := ihm (j + 1) (by omega) (stI (stI M 53 l.length (nI x)) 49 4 (nI (l.length + 1))) (l ++ [x]) h r (a.push x) (app_push e)
        refine ⟨M1, p1, ?_, ?_, p4⟩
        · exact (((FM.rf M).st (Or.inr (by omega))).st (Or.inl (by omega))).tr p2
        · rw [p3, gI_oth (by omega), gI_oth (by omega)]
    rw [fR_s _ (by omega)] at e
    exact inner (cL v i x) 0 (by omega) M l h r a e
/-! SNAIL's order -/
theorem owN_md {L : Nat → Nat} {d : Nat} (hd : d = 2 ∨ d = 3) (he : ∀ a, a < d → L a = L 0) (kz : ∀ a, d ≤ a → a < 3 → L a = 0) : ∀ n, (owN L n).length = d * min n (L 0) ∧ ∀ k, k < d * min n (L 0) → (owN L n).getD k 0 = k % d := by
  intro n
  induction n with
  | zero => exact ⟨by rw [Nat.zero_min, Nat.mul_zero]; rfl, fun k hk => by rw [Nat.zero_min, Nat.mul_zero] at hk; omega⟩
  | succ n ih =>
    show (owB L n ++ owN L n).length = _ ∧ ∀ k, _ → (owB L n ++ owN L n).getD k 0 = _
    have e0 : fB L n 0 = owB L n := rfl
    by_cases hq : n < L 0
    · have eb : (owB L n).length = d ∧ ∀ k, k < d → (owB L n).getD k 0 = k := by
        rw [← e0, fB_s L n (by omega), if_pos hq, fB_s L n (by omega), if_pos (by rw [he 1 (by omega)]; exact hq)]
        rcases hd with rfl | rfl
        · rw [fB_e (Or.inl rfl) kz]
          exact ⟨rfl, fun k hk => by rcases (show k = 0 ∨ k = 1 by omega) with rfl | rfl <;> rfl⟩
        · rw [fB_s L n (by omega), if_pos (by rw [he 2 (by omega)]; exact hq), fB_e (Or.inr rfl) kz]
          exact ⟨rfl, fun k hk => by rcases (show k = 0 ∨ k = 1 ∨ k = 2 by omega) with rfl | rfl | rfl <;> rfl⟩
      have em : min (n + 1) (L 0) = min n (L 0) + 1 := by omega
      rw [em, Nat.mul_add, Nat.mul_one]
      refine ⟨by rw [List.length_append, eb.1, ih.1]; omega, fun k hk => ?_⟩
      by_cases hk2 : k < d
      · rw [List.getD_eq_getElem?_getD, List.getElem?_append_left (by omega), ← List.getD_eq_getElem?_getD, eb.2 k hk2, Nat.mod_eq_of_lt hk2]
      · rw [List.getD_eq_getElem?_getD, List.getElem?_append_right (by omega), ← List.getD_eq_getElem?_getD, eb.1, ih.2 (k - d) (by omega), Nat.mod_eq_sub_mod (show d ≤ k by omega)]
    · have eb : owB L n = [] := by
        rw [← e0, fB_s L n (by omega), if_neg hq, fB_s L n (by omega), if_neg (by rw [he 1 (by omega)]; exact hq)]
        rcases hd with rfl | rfl
        · rw [fB_e (Or.inl rfl) kz]
        · rw [fB_s L n (by omega), if_neg (by rw [he 2 (by omega)]; exact hq), fB_e (Or.inr rfl) kz]
      rw [eb, List.nil_append, show min (n + 1) (L 0) = min n (L 0) by omega]
      exact ih
theorem R_snail {i d : Nat} (hd : d = 2 ∨ d = 3) {m : Nat} (hm : m ≤ 60) : ∀ n x, x + n = m → ∀ M d4, SH M → gI M 49 4 = nI m → (∀ k, k < x → gI M 53 k = nI (k % d)) → ∃ M1, q_RL T_X12_lays (89, [some (.inr (.inr (some 49))), some (.inl (nI i)), some (.inl (nI d)), some (.inl (nI x)), d4], [], M) = some (none, M1) ∧ FM M M1 ∧ gI M1 49 3 = gI M 49 3 ∧ gI M1 49 4 = nI m ∧ ∀ k, k < m → gI M1 53 k = nI (k % d) := by
  intro n
  induction n with
  | zero =>
    intro x hx M d4 h e q
    refine ⟨M, ?_, FM.rf M, rfl, e, fun k hk => q k (by omega)⟩
    rw [E_X12_lays_89]
    simp only [m_fI h, Option.bind_some, e]
    rw [if_pos (nI_le (by omega) (by omega))]
  | succ n ih =>
    intro x hx M d4 h e q
    rw [E_X12_lays_89]
    simp only [m_fI h, Option.bind_some, e, m_ax h]
    rw [if_neg (nI_ge (by omega) (by omega)), if_neg (nI_ne0 (by omega) (by omega)), pk_rem (by omega) (by omega) (by omega), m_b60 h (Or.inl rfl) (by omega), Option.bind_some, nI_1]
    obtain ⟨M1, p1, p2, p3, p4⟩ := ih (x + 1) (by omega) (stI M 53 x (nI (x % d))) d4 h (by rw [gI_oth (by omega)]; exact e) (fun k hk => by
      by_cases ek : k = x
      · rw [ek, gI_self]
      · rw [gI_oth (by omega)]; exact q k (by omega))
    refine ⟨M1, p1, ((FM.rf M).st (Or.inr (by omega))).tr p2, ?_, p4⟩
    rw [p3, gI_oth (by omega)]
theorem ow_60 {v : Nat → Nat} {i : Nat} (hc : okI v i) : (owK (cK v i) (cL v i)).length = lsm (cL v i) ∧ lsm (cL v i) ≤ 60 := by
  obtain ⟨⟨k4, kd, kL, _, kz, _, k3⟩, _⟩ := hc
  have a := kL 0 (by omega)
  have b := kL 1 (by omega)
  have c := kL 2 (by omega)
  refine ⟨?_, by unfold lsm; omega⟩
  rw [ow_len (owK_3 _ _), owK_c kL 0 (by omega), owK_c kL 1 (by omega), owK_c kL 2 (by omega)]; rfl
theorem R_lays {M : q_M} {v : Nat → Nat} (h : SH M) (r : RI M v) {i : Nat} (hi : i < 8) (hc : okI v i) : ∃ M1, q_CL 149 [.inr (.inr (some 49)), .inl (nI i)] M = some (none, M1) ∧ FM M M1 ∧ LYr M1 (cK v i) (cD v i) (cL v i) := by
  obtain ⟨hl, h60⟩ := ow_60 hc
  have hc0 := hc
  obtain ⟨⟨k4, kd, kL, _, kz, ke, k3⟩, _⟩ := hc
  rw [C_X12_lays]
  have hS : ∀ x y, SH (stI (stI M 49 3 x) 49 4 y) := fun _ _ => h
  have hS1 : ∀ x, SH (stI M 49 3 x) := fun _ => h
  have hR : ∀ x y, RI (stI (stI M 49 3 x) 49 4 y) v := fun _ _ => r
  simp only [m_sel h, Option.bind_some, R_axes h r hi, R_kind h r hi, z_rI, m_sI h, m_sI (hS1 _), m_sel (hS _ _), R_kind (hS _ _) (hR _ _) hi, R_has (hS _ _) (hR _ _) hi (show 0 < 3 by omega), m_sI (hS _ _), nI_eq (show cK v i < 2 ^ 31 by omega) (show 3 < 2 ^ 31 by omega), nI_eq (show cK v i < 2 ^ 31 by omega) (show 2 < 2 ^ 31 by omega)]
  have fm : ∀ x y, FM M (stI (stI M 49 3 x) 49 4 y) := fun x y => ((FM.rf M).st (Or.inl (by omega))).st (Or.inl (by omega))
  by_cases h3 : cK v i = 3
  · have h2 : ¬ cK v i = 2 := by omega
    simp only [if_pos h3, if_neg h2, pk_mul]
    have el := owN_md kd (fun a ha => ke (Or.inr (Or.inr h3)) a ha) kz 20
    have eo : owK (cK v i) (cL v i) = owN (cL v i) 20 := by unfold owK; rw [if_neg (by omega)]; rfl
    rw [show min 20 (cL v i 0) = cL v i 0 by have := kL 0 (by omega); omega] at el
    have hm : cD v i * cL v i 0 ≤ 60 := by rw [← el.1, ← eo, hl]; exact h60
    obtain ⟨M1, p1, p2, p3, p4, p5⟩ := R_snail (i := i) kd hm (cD v i * cL v i 0) 0 (by omega) (stI (stI (stI M 49 3 (nI 3)) 49 4 (nI 0)) 49 4 (nI (cD v i * cL v i 0))) none h gI_self (fun k hk => by omega)
    refine ⟨M1, p1, ((fm _ _).st (Or.inl (by omega))).tr p2, ?_, fun q => absurd q h2, fun _ => ?_⟩
    · rw [p3, gI_oth (by omega), gI_oth (by omega), gI_self, if_neg h2, show cB (cK v i) = 3 from if_pos h3]
    · rw [eo]
      exact ⟨by rw [p4, el.1], fun k hk => by rw [el.1] at hk; rw [p5 k hk, el.2 k hk]⟩
  · by_cases h2 : cK v i = 2
    · simp only [if_neg h3, if_pos h2]
      refine ⟨_, rfl, (fm _ _).st (Or.inl (by omega)), ?_, fun _ => gI_self, fun q => absurd h2 q⟩
      rw [gI_oth (by omega), gI_oth (by omega), gI_self, if_pos h2, sh1 _ (by omega)]
    · simp only [if_neg h3, if_neg h2]
      by_cases h0 : cK v i = 0
      · rw [if_pos (by rw [h0]; exact nI_0)]
        obtain ⟨M1, p1, p2, p3, p4⟩ := R_rows hi hc0 (T := owR (cL v i)) (by rw [← show owK (cK v i) (cL v i) = owR (cL v i) from if_pos h0, hl]; exact h60) (cD v i) 0 (by omega) (stI (stI M 49 3 (nI 2)) 49 4 (nI 0)) [] none h r ⟨gI_self, fun k hk => by rw [List.length_nil] at hk; omega⟩ (by rw [List.nil_append, fR_0])
        refine ⟨M1, p1, (fm _ _).tr p2, ?_, fun q => absurd q h2, fun _ => ?_⟩
        · rw [p3, gI_oth (by omega), gI_self, if_neg h2, show cB (cK v i) = 2 from if_neg h3]
        · rw [show owK (cK v i) (cL v i) = owR (cL v i) from if_pos h0]; exact p4
      · rw [if_neg (nI_ne0 (by omega) (by omega))]
        obtain ⟨M1, p1, p2, p3, p4⟩ := R_weave hi hc0 (T := owW (cL v i)) (by rw [← show owK (cK v i) (cL v i) = owW (cL v i) from if_neg h0, hl]; exact h60) 20 (by omega) (stI (stI M 49 3 (nI 2)) 49 4 (nI 0)) [] none h r ⟨gI_self, fun k hk => by rw [List.length_nil] at hk; omega⟩ (by rw [List.nil_append]; rfl)
        rw [show nI 19 = nI 20 + (-1) from (pk_m1 19).symm]
        refine ⟨M1, p1, (fm _ _).tr p2, ?_, fun q => absurd q h2, fun _ => ?_⟩
        · rw [p3, gI_oth (by omega), gI_self, if_neg h2, show cB (cK v i) = 2 from if_neg h3]
        · rw [show owK (cK v i) (cL v i) = owW (cL v i) from if_neg h0]; exact p4
