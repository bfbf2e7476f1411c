/-! ===== BLOCKS THAT ARE MADE ===== -/
/-- M is M0 with the cells of G behind it, from b on -/
def Rel (b : Nat) (M0 G M : q_M) : Prop := gN M0 = b ∧ gN M = b + gN G ∧ gS M = gS M0 + gS G ∧ (∀ x, x < gN G → M.1 (b + x) = G.1 x ∧ M.2.1 (b + x) = G.2.1 x ∧ ∀ k, gI M (b + x) k = gI G x k ∧ gL M (b + x) k = gL G x k ∧ gR M (b + x) k = (gR G x k).map (b + ·)) ∧ ∀ a, a < b → M.1 a = M0.1 a ∧ M.2.1 a = M0.2.1 a ∧ ∀ k, gI M a k = gI M0 a k ∧ gL M a k = gL M0 a k ∧ gR M a k = gR M0 a k
def gE : q_M := (fun _ => 0, fun _ => 0, fun _ _ => 0, fun _ _ => 0, fun _ _ => none, 0, 0)
theorem Rel.start {M : q_M} {b : Nat} (e : gN M = b) : Rel b M gE M := ⟨e, e, rfl, fun x hx => absurd hx (Nat.not_lt_zero _), fun _ _ => ⟨rfl, rfl, fun _ => ⟨rfl, rfl, rfl⟩⟩⟩
theorem Rel.nx {b c : Nat} {M0 G M : q_M} (r : Rel b M0 G M) (e : gN G = c) : M.2.2.2.2.2.1 = b + c := by
  rw [← e]; exact r.2.1
theorem Rel.isT {b t x a : Nat} {M0 G M : q_M} (r : Rel b M0 G M) (ea : a = b + x) (hx : x < gN G) (h : q_isT t (G.1 x) = true) : q_isT t (M.1 a) = true := by
  rw [ea, (r.2.2.2.1 x hx).1]; exact h
theorem Rel.tg {b t x a : Nat} {M0 G M : q_M} (r : Rel b M0 G M) (ea : a = b + x) (hx : x < gN G) (h : G.1 x = t) : M.1 a = t := by
  rw [ea, (r.2.2.2.1 x hx).1]; exact h
theorem Rel.ln {b t x a : Nat} {M0 G M : q_M} (r : Rel b M0 G M) (ea : a = b + x) (hx : x < gN G) (h : G.2.1 x = t) : M.2.1 a = t := by
  rw [ea, (r.2.2.2.1 x hx).2.1]; exact h
theorem Rel.rf {b x k y a : Nat} {M0 G M : q_M} (r : Rel b M0 G M) (ea : a = b + x) (hx : x < gN G) (h : gR G x k = some y) : gR M a k = some (b + y) := by
  rw [ea, ((r.2.2.2.1 x hx).2.2 k).2.2, h]; rfl
theorem Rel.zA {b t n : Nat} {M0 G M : q_M} (r : Rel b M0 G M) (rn : gN M0 + 100 ≤ 600000) (rs : gS M0 + 300000 ≤ 7302250) (h1 : gN G ≤ 100) (h2 : gS G + n ≤ 300000) : q_newA M t (nI n) = some (q_born M t n) := z_newA (by omega) (by have := r.1; have := r.2.1; omega) (by have := r.2.2.1; omega)
theorem Rel.zN {b t n : Nat} {M0 G M : q_M} (r : Rel b M0 G M) (rn : gN M0 + 100 ≤ 600000) (rs : gS M0 + 300000 ≤ 7302250) (h1 : gN G ≤ 100) (h2 : gS G + n ≤ 300000) : q_new M t n = some (q_born M t n) := z_new (by have := r.1; have := r.2.1; omega) (by have := r.2.2.1; omega)
theorem t_bornA (M : q_M) (t n a : Nat) : (q_born M t n).1 a = if a = gN M then t else M.1 a := by
  by_cases c : a = gN M
  · rw [if_pos c, c]; exact t_bornS M t n
  · rw [if_neg c]; exact t_bornx c
theorem l_bornA (M : q_M) (t n a : Nat) : (q_born M t n).2.1 a = if a = gN M then n else M.2.1 a := by
  by_cases c : a = gN M
  · rw [if_pos c, c]; exact l_born M t n
  · rw [if_neg c]; exact l_bornx c
theorem gI_bornA (M : q_M) (t n a k : Nat) : gI (q_born M t n) a k = if a = gN M then 0 else gI M a k := by
  by_cases c : a = gN M
  · rw [if_pos c, c]; exact gI_born M t n k
  · rw [if_neg c]; exact gI_bornx c
theorem gL_bornA (M : q_M) (t n a k : Nat) : gL (q_born M t n) a k = if a = gN M then 0 else gL M a k := by
  by_cases c : a = gN M
  · rw [if_pos c, c]; exact gL_born M t n k
  · rw [if_neg c]; exact gL_bornx c
theorem gR_bornA (M : q_M) (t n a k : Nat) : gR (q_born M t n) a k = if a = gN M then none else gR M a k := by
  by_cases c : a = gN M
  · rw [if_pos c, c]; exact gR_born M t n k
  · rw [if_neg c]; exact gR_bornx c
theorem Rel.born {b : Nat} {M0 G M : q_M} (r : Rel b M0 G M) (t n : Nat) : Rel b M0 (q_born G t n) (q_born M t n) := by
  obtain ⟨r1, r2, r3, r4, r5⟩ := r
  refine ⟨r1, by rw [n_born, n_born]; omega, by rw [s_born, s_born]; omega, fun x hx => ?_, fun a ha => ?_⟩
  · rw [n_born] at hx
    have e : b + x = gN M ↔ x = gN G := by omega
    simp only [t_bornA, l_bornA, gI_bornA, gL_bornA, gR_bornA, e]
    by_cases c : x = gN G
    · simp only [if_pos c]
      exact ⟨trivial, trivial, fun k => ⟨trivial, trivial, rfl⟩⟩
    · simp only [if_neg c]
      exact r4 x (by omega)
  · simp only [t_bornA, l_bornA, gI_bornA, gL_bornA, gR_bornA, if_neg (show ¬ a = gN M by omega)]
    exact r5 a ha
theorem Rel.sI {b x a : Nat} {M0 G M : q_M} (r : Rel b M0 G M) (ea : a = b + x) (k : Nat) (v : Int32) : Rel b M0 (stI G x k v) (stI M a k v) := by
  subst ea
  obtain ⟨r1, r2, r3, r4, r5⟩ := r
  refine ⟨r1, r2, r3, fun y hy => ⟨(r4 y hy).1, (r4 y hy).2.1, fun j => ?_⟩, fun c hc => ⟨(r5 c hc).1, (r5 c hc).2.1, fun j => ?_⟩⟩
  · obtain ⟨q1, q2, q3⟩ := (r4 y hy).2.2 j
    refine ⟨?_, q2, q3⟩
    rw [gI_stI, gI_stI, q1]
    by_cases c : y = x ∧ j = k
    · rw [if_pos c, if_pos (by omega)]
    · rw [if_neg c, if_neg (by omega)]
  · obtain ⟨q1, q2, q3⟩ := (r5 c hc).2.2 j
    refine ⟨?_, q2, q3⟩
    rw [gI_stI, if_neg (by omega)]; exact q1
theorem Rel.sL {b x a : Nat} {M0 G M : q_M} (r : Rel b M0 G M) (ea : a = b + x) (k : Nat) (v : Int64) : Rel b M0 (stL G x k v) (stL M a k v) := by
  subst ea
  obtain ⟨r1, r2, r3, r4, r5⟩ := r
  refine ⟨r1, r2, r3, fun y hy => ⟨(r4 y hy).1, (r4 y hy).2.1, fun j => ?_⟩, fun c hc => ⟨(r5 c hc).1, (r5 c hc).2.1, fun j => ?_⟩⟩
  · obtain ⟨q1, q2, q3⟩ := (r4 y hy).2.2 j
    refine ⟨q1, ?_, q3⟩
    rw [gL_stL, gL_stL, q2]
    by_cases c : y = x ∧ j = k
    · rw [if_pos c, if_pos (by omega)]
    · rw [if_neg c, if_neg (by omega)]
  · obtain ⟨q1, q2, q3⟩ := (r5 c hc).2.2 j
    refine ⟨q1, ?_, q3⟩
    rw [gL_stL, if_neg (by omega)]; exact q2
theorem Rel.sR {b x a : Nat} {M0 G M : q_M} (r : Rel b M0 G M) (ea : a = b + x) (k : Nat) (v w : Option Nat) (ew : w = v.map (b + ·)) : Rel b M0 (stR G x k v) (stR M a k w) := by
  subst ea
  subst ew
  obtain ⟨r1, r2, r3, r4, r5⟩ := r
  refine ⟨r1, r2, r3, fun y hy => ⟨(r4 y hy).1, (r4 y hy).2.1, fun j => ?_⟩, fun c hc => ⟨(r5 c hc).1, (r5 c hc).2.1, fun j => ?_⟩⟩
  · obtain ⟨q1, q2, q3⟩ := (r4 y hy).2.2 j
    refine ⟨q1, q2, ?_⟩
    rw [gR_stR, gR_stR, q3]
    by_cases c : y = x ∧ j = k
    · rw [if_pos c, if_pos (by omega)]
    · rw [if_neg c, if_neg (by omega)]
  · obtain ⟨q1, q2, q3⟩ := (r5 c hc).2.2 j
    refine ⟨q1, q2, ?_⟩
    rw [gR_stR, if_neg (by omega)]; exact q3
def b61 (G : q_M) : q_M := stR (stR (stR (q_born (q_born (q_born (q_born G 22 3) 14 61) 14 61) 14 61) (gN G) 0 (some (gN G + 1))) (gN G) 1 (some (gN G + 2))) (gN G) 2 (some (gN G + 3))
theorem Rel.n2 {b : Nat} {M0 G M : q_M} (r : Rel b M0 G M) (rn : gN M0 + 100 ≤ 600000) (rs : gS M0 + 300000 ≤ 7302250) (h1 : gN G ≤ 90) (h2 : gS G ≤ 200000) : ∃ M1, q_new2 M (nI 3) (nI 61) = some M1 ∧ Rel b M0 (b61 G) M1 := by
  obtain ⟨r1, r2, r3, r4, r5⟩ := r
  have c3 : (nI 3).toNatClampNeg = 3 := nI_clamp (by omega)
  have c61 : (nI 61).toNatClampNeg = 61 := nI_clamp (by omega)
  have e3 : nI 3 = 3 ∧ nI 61 = 61 := by decide +kernel
  have eN : M.2.2.2.2.2.1 = gN M := rfl
  have eS : M.2.2.2.2.2.2 = gS M := rfl
  have gNb : gN (b61 G) = gN G + 1 + 1 + 1 + 1 := rfl
  have gSb : gS (b61 G) = gS G + 3 + 61 + 61 + 61 := rfl
  unfold q_new2
  rw [if_pos ⟨e3, by rw [c3, eN]; omega, by rw [c3, c61, eS]; omega⟩]
  refine ⟨_, rfl, r1, ?_, ?_, fun x hx => ?_, fun a ha => ?_⟩
  · show M.2.2.2.2.2.1 + 1 + (nI 3).toNatClampNeg = b + gN (b61 G)
    rw [c3, gNb, eN]; omega
  · show M.2.2.2.2.2.2 + ((nI 3).toNatClampNeg + (nI 3).toNatClampNeg * (nI 61).toNatClampNeg) = _
    rw [c3, c61, gSb, eS]; omega
  · rw [gNb] at hx
    by_cases c : x < gN G
    · obtain ⟨q1, q2, q3⟩ := r4 x c
      have l : b + x < M.2.2.2.2.2.1 := by rw [eN]; omega
      refine ⟨?_, ?_, fun k => ⟨?_, ?_, ?_⟩⟩
      · show (if b + x < M.2.2.2.2.2.1 then _ else _) = _
        rw [if_pos l, q1]
        simp only [b61, t_stR, t_bornA, n_born]
        rw [if_neg (by omega), if_neg (by omega), if_neg (by omega), if_neg (by omega)]
      · show (if b + x < M.2.2.2.2.2.1 then _ else _) = _
        rw [if_pos l, q2]
        simp only [b61, l_stR, l_bornA, n_born]
        rw [if_neg (by omega), if_neg (by omega), if_neg (by omega), if_neg (by omega)]
      · show (if b + x < M.2.2.2.2.2.1 then M.2.2.1 (b + x) else fun _ => 0) k = _
        rw [if_pos l]
        simp only [b61, gI_stR, gI_bornA, n_born]
        rw [if_neg (by omega), if_neg (by omega), if_neg (by omega), if_neg (by omega)]
        exact (q3 k).1
      · show (if b + x < M.2.2.2.2.2.1 then M.2.2.2.1 (b + x) else fun _ => 0) k = _
        rw [if_pos l]
        simp only [b61, gL_stR, gL_bornA, n_born]
        rw [if_neg (by omega), if_neg (by omega), if_neg (by omega), if_neg (by omega)]
        exact (q3 k).2.1
      · show (if b + x < M.2.2.2.2.2.1 then M.2.2.2.2.1 (b + x) else if b + x = M.2.2.2.2.2.1 then fun j => if j < (nI 3).toNatClampNeg then some (M.2.2.2.2.2.1 + 1 + j) else none else fun _ => none) k = _
        rw [if_pos l]
        simp only [b61, gR_stR, gR_bornA, n_born]
        rw [if_neg (by omega), if_neg (by omega), if_neg (by omega), if_neg (by omega), if_neg (by omega), if_neg (by omega), if_neg (by omega)]
        exact (q3 k).2.2
    · have l : ¬ b + x < M.2.2.2.2.2.1 := by rw [eN]; omega
      have zI : gI (b61 G) x = fun _ => 0 := by
        funext k
        simp only [b61, gI_stR, gI_bornA, n_born]
        rcases (show x = gN G ∨ x = gN G + 1 ∨ x = gN G + 1 + 1 ∨ x = gN G + 1 + 1 + 1 by omega) with z | z | z | z <;> simp [z]
      have zL : gL (b61 G) x = fun _ => 0 := by
        funext k
        simp only [b61, gL_stR, gL_bornA, n_born]
        rcases (show x = gN G ∨ x = gN G + 1 ∨ x = gN G + 1 + 1 ∨ x = gN G + 1 + 1 + 1 by omega) with z | z | z | z <;> simp [z]
      refine ⟨?_, ?_, fun k => ⟨?_, ?_, ?_⟩⟩
      · show (if b + x < M.2.2.2.2.2.1 then _ else if b + x = M.2.2.2.2.2.1 then 22 else if b + x < M.2.2.2.2.2.1 + 1 + (nI 3).toNatClampNeg then 14 else _) = _
        rw [if_neg l, c3, eN]
        simp only [b61, t_stR, t_bornA, n_born]
        rcases (show x = gN G ∨ x = gN G + 1 ∨ x = gN G + 1 + 1 ∨ x = gN G + 1 + 1 + 1 by omega) with z | z | z | z
        · rw [if_pos (by omega), if_neg (by omega), if_neg (by omega), if_neg (by omega), if_pos z]
        · rw [if_neg (by omega), if_pos (by omega), if_neg (by omega), if_neg (by omega), if_pos z]
        · rw [if_neg (by omega), if_pos (by omega), if_neg (by omega), if_pos z]
        · rw [if_neg (by omega), if_pos (by omega), if_pos z]
      · show (if b + x < M.2.2.2.2.2.1 then _ else if b + x = M.2.2.2.2.2.1 then (nI 3).toNatClampNeg else (nI 61).toNatClampNeg) = _
        rw [if_neg l, c3, c61, eN]
        simp only [b61, l_stR, l_bornA, n_born]
        rcases (show x = gN G ∨ x = gN G + 1 ∨ x = gN G + 1 + 1 ∨ x = gN G + 1 + 1 + 1 by omega) with z | z | z | z
        · rw [if_pos (by omega), if_neg (by omega), if_neg (by omega), if_neg (by omega), if_pos z]
        · rw [if_neg (by omega), if_neg (by omega), if_neg (by omega), if_pos z]
        · rw [if_neg (by omega), if_neg (by omega), if_pos z]
        · rw [if_neg (by omega), if_pos z]
      · show (if b + x < M.2.2.2.2.2.1 then _ else fun _ => 0) k = _
        rw [if_neg l, zI]
      · show (if b + x < M.2.2.2.2.2.1 then _ else fun _ => 0) k = _
        rw [if_neg l, zL]
      · show (if b + x < M.2.2.2.2.2.1 then _ else if b + x = M.2.2.2.2.2.1 then fun j => if j < (nI 3).toNatClampNeg then some (M.2.2.2.2.2.1 + 1 + j) else none else fun _ => none) k = _
        rw [if_neg l, c3, eN]
        simp only [b61, gR_stR, gR_bornA, n_born]
        rcases (show x = gN G ∨ x ≠ gN G by omega) with z | z
        · rw [if_pos (by omega)]
          show (if k < 3 then some (gN M + 1 + k) else none) = _
          rcases (show k = 0 ∨ k = 1 ∨ k = 2 ∨ 3 ≤ k by omega) with y | y | y | y
          · rw [if_pos (by omega), if_neg (by omega), if_neg (by omega), if_pos (by omega), y]
            show _ = some (b + (gN G + 1))
            congr 1; omega
          · rw [if_pos (by omega), if_neg (by omega), if_pos (by omega), y]
            show _ = some (b + (gN G + 2))
            congr 1; omega
          · rw [if_pos (by omega), if_pos (by omega), y]
            show _ = some (b + (gN G + 3))
            congr 1; omega
          · rw [if_neg (by omega), if_neg (by omega), if_neg (by omega), if_neg (by omega), if_neg (by omega), if_neg (by omega), if_neg (by omega), if_pos z]
            rfl
        · rw [if_neg (by omega), if_neg (by omega), if_neg (by omega), if_neg (by omega)]
          rcases (show x = gN G + 1 ∨ x = gN G + 1 + 1 ∨ x = gN G + 1 + 1 + 1 by omega) with z | z | z <;> simp [z]
  · have l : a < M.2.2.2.2.2.1 := by rw [eN]; omega
    obtain ⟨q1, q2, q3⟩ := r5 a ha
    refine ⟨?_, ?_, fun k => ⟨?_, ?_, ?_⟩⟩
    · show (if a < M.2.2.2.2.2.1 then _ else _) = _
      rw [if_pos l, q1]
    · show (if a < M.2.2.2.2.2.1 then _ else _) = _
      rw [if_pos l, q2]
    · show (if a < M.2.2.2.2.2.1 then M.2.2.1 a else fun _ => 0) k = _
      rw [if_pos l]; exact (q3 k).1
    · show (if a < M.2.2.2.2.2.1 then M.2.2.2.1 a else fun _ => 0) k = _
      rw [if_pos l]; exact (q3 k).2.1
    · show (if a < M.2.2.2.2.2.1 then M.2.2.2.2.1 a else if a = M.2.2.2.2.2.1 then fun j => if j < (nI 3).toNatClampNeg then some (M.2.2.2.2.2.1 + 1 + j) else none else fun _ => none) k = _
      rw [if_pos l]; exact (q3 k).2.2
