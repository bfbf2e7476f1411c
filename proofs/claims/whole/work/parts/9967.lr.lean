/-! ===== SUMS ===== -/
def sm (f : Nat → Nat) : Nat → Nat
  | 0 => 0
  | n + 1 => sm f n + f n
theorem sm_cg {f g : Nat → Nat} : ∀ n, (∀ i, i < n → f i = g i) → sm f n = sm g n
  | 0, _ => rfl
  | n + 1, h => by
    show sm f n + f n = sm g n + g n
    rw [sm_cg n (fun i hi => h i (by omega)), h n (by omega)]
theorem sm_0 : ∀ n, sm (fun _ => 0) n = 0
  | 0 => rfl
  | n + 1 => by show sm (fun _ => 0) n + 0 = 0; rw [sm_0 n]
theorem sm_add {f g : Nat → Nat} : ∀ n, sm (fun i => f i + g i) n = sm f n + sm g n
  | 0 => rfl
  | n + 1 => by
    show sm (fun i => f i + g i) n + (f n + g n) = (sm f n + f n) + (sm g n + g n)
    rw [sm_add n]; omega
theorem sm_swap {f : Nat → Nat → Nat} (m : Nat) : ∀ n, sm (fun i => sm (fun j => f i j) m) n = sm (fun j => sm (fun i => f i j) n) m
  | 0 => (sm_0 m).symm
  | n + 1 => by
    show sm (fun i => sm (fun j => f i j) m) n + sm (fun j => f n j) m = sm (fun j => sm (fun i => f i j) n + f n j) m
    rw [sm_swap m n, sm_add]
theorem sm_pt {g : Nat → Nat} {k : Nat} : ∀ n, sm (fun i => if i = k then g i else 0) n = if k < n then g k else 0
  | 0 => rfl
  | n + 1 => by
    show sm (fun i => if i = k then g i else 0) n + (if n = k then g n else 0) = _
    rw [sm_pt n]
    by_cases e : n = k
    · subst e
      rw [if_pos rfl, if_neg (by omega), if_pos (by omega)]; omega
    · rw [if_neg e]
      by_cases c : k < n
      · rw [if_pos c, if_pos (by omega)]; rfl
      · rw [if_neg c, if_neg (by omega)]
theorem sm_mul (c : Nat) {f : Nat → Nat} : ∀ n, sm (fun i => c * f i) n = c * sm f n
  | 0 => rfl
  | n + 1 => by
    show sm (fun i => c * f i) n + c * f n = c * (sm f n + f n)
    rw [sm_mul c n, Nat.mul_add]
theorem sm_mulr (c : Nat) {f : Nat → Nat} (n : Nat) : sm (fun i => f i * c) n = sm f n * c := by
  rw [Nat.mul_comm, ← sm_mul]
  exact sm_cg n (fun i _ => Nat.mul_comm _ _)
theorem sm_sub {f g : Nat → Nat} : ∀ n, (∀ i, i < n → g i ≤ f i) → sm (fun i => f i - g i) n + sm g n = sm f n
  | 0, _ => rfl
  | n + 1, h => by
    have := sm_sub n (fun i hi => h i (by omega))
    have := h n (by omega)
    show (sm (fun i => f i - g i) n + (f n - g n)) + (sm g n + g n) = sm f n + f n
    omega
theorem sm_mono {f : Nat → Nat} (a : Nat) : ∀ b, sm f a ≤ sm f (a + b)
  | 0 => Nat.le_refl _
  | b + 1 => by
    have := sm_mono (f := f) a b
    show sm f a ≤ sm f (a + b) + f (a + b)
    omega
theorem sm_z {f : Nat → Nat} (a : Nat) : ∀ b, (∀ i, a ≤ i → i < a + b → f i = 0) → sm f (a + b) = sm f a
  | 0, _ => rfl
  | b + 1, h => by
    show sm f (a + b) + f (a + b) = sm f a
    rw [sm_z a b (fun i h1 h2 => h i h1 (by omega)), h (a + b) (by omega) (by omega)]; rfl
theorem sm_iv {lo hi : Nat} : ∀ n, sm (fun a => if lo ≤ a ∧ a < hi then 1 else 0) n = (if hi < n then hi else n) - lo
  | 0 => by show 0 = _; split <;> omega
  | n + 1 => by
    show sm (fun a => if lo ≤ a ∧ a < hi then 1 else 0) n + (if lo ≤ n ∧ n < hi then 1 else 0) = _
    rw [sm_iv n]
    repeat' split
    all_goals omega
theorem am_sum {s w : Nat} (h1 : 1 ≤ w) (hw : w ≤ s) : sm (fun x => am x x s w) s = (s - w + 1) * w := by
  have e1 : ∀ x, x < s → am x x s w = sm (fun a => if a ≤ x ∧ x < a + w then 1 else 0) (s - w + 1) := fun x hx => by
    rw [sm_cg (g := fun a => if x + 1 - w ≤ a ∧ a < x + 1 then 1 else 0) (s - w + 1) (fun a _ => by
      by_cases c : a ≤ x ∧ x < a + w
      · rw [if_pos c, if_pos (by omega)]
      · rw [if_neg c, if_neg (by omega)]), sm_iv]
    unfold am
    repeat' split
    all_goals omega
  rw [sm_cg s e1, sm_swap]
  rw [sm_cg (g := fun _ => w * 1) (s - w + 1) (fun a ha => by
    have : sm (fun x => if a ≤ x ∧ x < a + w then 1 else 0) s = w := by
      rw [sm_iv]; split <;> omega
    rw [Nat.mul_one]; exact this), sm_mul]
  have : ∀ n, sm (fun _ => 1) n = n := by
    intro n
    induction n with
    | zero => rfl
    | succ n ih => show sm (fun _ => 1) n + 1 = _; rw [ih]
  rw [this, Nat.mul_comm]
/-! numbers of the square -/
def isq (v : Nat → Nat) (i s n : Nat) : Bool := decide (plI v i n 0 < s ∧ plI v i n 1 < s)
def sqF (v : Nat → Nat) (i s w h n : Nat) : Nat := if n = 0 then 0 else if plI v i (n - 1) 0 < s ∧ plI v i (n - 1) 1 < s then am2 (plI v i n 0) (plI v i (n - 1) 0) s w * am2 (plI v i n 1) (plI v i (n - 1) 1) s h else 0
/-- a sum over the square by places is one by numbers -/
theorem sq_sum {v : Nat → Nat} {i : Nat} (hi : i < 8) (hc : okI v i) (hd : cD v i = 2) {s : Nat} (r0 : s ≤ cB (cK v i) ^ cL v i 0) (r1 : s ≤ cB (cK v i) ^ cL v i 1) (F : Nat → Nat) : sm (fun x => sm (fun y => F (npI v i (pl2 x y))) s) s = sm (fun n => if isq v i s n = true then F n else 0) (cS v i) := by
  have r2 := (room_le hc (show 2 < 3 by omega)).1
  have hq : ∀ x y, x < s → y < s → ∀ a, a < 3 → pl2 x y a < cB (cK v i) ^ cL v i a := fun x y hx hy a ha => by
    rcases (show a = 0 ∨ a = 1 ∨ a = 2 by omega) with rfl | rfl | rfl
    · show x < _; omega
    · show y < _; omega
    · show 0 < _; exact r2
  have lz : cL v i 2 = 0 := hc.1.2.2.2.2.1 2 (by omega) (by omega)
  have pt : ∀ n, n < cS v i → (if isq v i s n = true then F n else 0) = sm (fun x => sm (fun y => if n = npI v i (pl2 x y) then F n else 0) s) s := fun n hn => by
    have rm : ∀ a, a < 3 → plI v i n a < cB (cK v i) ^ cL v i a := fun a ha => by
      rw [(cS_pw hc).1] at hn
      exact in0.mp (plc_in (gdI hc) hn).1 a ha
    by_cases c : isq v i s n = true
    · have c' := of_decide_eq_true c
      have z2 : plI v i n 2 = 0 := by
        have := rm 2 (by omega)
        rw [lz, Nat.pow_zero] at this
        omega
      have en : npI v i (pl2 (plI v i n 0) (plI v i n 1)) = n := by
        have := npI_cg (fun x _ => rfl) (i := i) (v := v) (u := v) ?_ hc (q := plI v i n) (q' := pl2 (plI v i n 0) (plI v i n 1)) rm (fun a ha => ?_)
        · rw [this, npI_plI hc hn]
        · exact hi
        · rcases (show a = 0 ∨ a = 1 ∨ a = 2 by omega) with rfl | rfl | rfl
          · rfl
          · rfl
          · exact z2.symm
      rw [if_pos c]
      rw [sm_cg (g := fun x => if x = plI v i n 0 then F n else 0) s (fun x hx => ?_), sm_pt, if_pos c'.1]
      rw [sm_cg (g := fun y => if y = plI v i n 1 then (if x = plI v i n 0 then F n else 0) else 0) s (fun y hy => ?_), sm_pt, if_pos c'.2]
      by_cases e : n = npI v i (pl2 x y)
      · have e0 := plI_npI hc (hq x y hx hy) 0 (by omega)
        have e1 := plI_npI hc (hq x y hx hy) 1 (by omega)
        rw [← e] at e0 e1
        rw [if_pos e, if_pos (show y = plI v i n 1 from e1.symm), if_pos (show x = plI v i n 0 from e0.symm)]
      · rw [if_neg e]
        by_cases e1 : y = plI v i n 1
        · rw [if_pos e1, if_neg]
          intro e0
          rw [e0, e1, en] at e
          exact e rfl
        · rw [if_neg e1]
    · rw [if_neg c]
      symm
      rw [sm_cg (g := fun _ => 0) s (fun x hx => ?_), sm_0]
      rw [sm_cg (g := fun _ => 0) s (fun y hy => ?_), sm_0]
      rw [if_neg]
      intro e
      have e0 := plI_npI hc (hq x y hx hy) 0 (by omega)
      have e1 := plI_npI hc (hq x y hx hy) 1 (by omega)
      rw [← e] at e0 e1
      apply c
      apply decide_eq_true
      rw [e0, e1]
      exact ⟨hx, hy⟩
  rw [sm_cg (cS v i) pt]
  symm
  rw [sm_swap]
  refine sm_cg s (fun x hx => ?_)
  rw [sm_swap]
  refine sm_cg s (fun y hy => ?_)
  rw [sm_pt, if_pos (npI_lt hc (hq x y hx hy))]
theorem mO_sum {v : Nat → Nat} {i : Nat} (hi : i < 8) (hc : okI v i) (hd : cD v i = 2) {s w h : Nat} (r0 : s ≤ cB (cK v i) ^ cL v i 0) (r1 : s ≤ cB (cK v i) ^ cL v i 1) (w1 : 1 ≤ w) (hw : w ≤ s) (h1 : 1 ≤ h) (hh : h ≤ s) : mO v i s w h s + sm (fun n => if isq v i s n = true then sqF v i s w h n else 0) (cS v i) = (s - w + 1) * w * ((s - h + 1) * h) := by
  have r2 := (room_le hc (show 2 < 3 by omega)).1
  have hq : ∀ x y, x < s → y < s → ∀ a, a < 3 → pl2 x y a < cB (cK v i) ^ cL v i a := fun x y hx hy a ha => by
    rcases (show a = 0 ∨ a = 1 ∨ a = 2 by omega) with rfl | rfl | rfl
    · show x < _; omega
    · show y < _; omega
    · show 0 < _; exact r2
  have e1 : ∀ x y, mI_ v i s w h x y = sm (fun y => am x x s w * am y y s h - tmS v i s w h x y) y := by
    intro x y
    induction y with
    | zero => rfl
    | succ y ih => show mI_ v i s w h x y + _ = _; rw [ih]; rfl
  have e2 : ∀ x, mO v i s w h x = sm (fun x => sm (fun y => am x x s w * am y y s h - tmS v i s w h x y) s) x := by
    intro x
    induction x with
    | zero => rfl
    | succ x ih => show mO v i s w h x + mI_ v i s w h x s = _; rw [ih, e1]; rfl
  have e3 : sm (fun x => sm (fun y => sqF v i s w h (npI v i (pl2 x y))) s) s = sm (fun x => sm (fun y => tmS v i s w h x y) s) s := sm_cg s (fun x hx => sm_cg s (fun y hy => by
    have p0 := plI_npI hc (hq x y hx hy) 0 (by omega)
    have p1 := plI_npI hc (hq x y hx hy) 1 (by omega)
    unfold sqF tmS
    rw [p0, p1]
    rfl))
  rw [← sq_sum hi hc hd r0 r1 (sqF v i s w h), e3, e2, ← sm_add]
  rw [sm_cg (g := fun x => am x x s w * sm (fun y => am y y s h) s) s (fun x hx => by
    show sm (fun y => am x x s w * am y y s h - tmS v i s w h x y) s + sm (fun y => tmS v i s w h x y) s = _
    rw [sm_sub s (fun y _ => tmS_le v i s w h x y), sm_mul]), sm_mulr, am_sum w1 hw, am_sum h1 hh]
/-! how many numbers of the square there are -/
theorem sq_cnt {v : Nat → Nat} {i : Nat} (hi : i < 8) (hc : okI v i) (hd : cD v i = 2) {s : Nat} (r0 : s ≤ cB (cK v i) ^ cL v i 0) (r1 : s ≤ cB (cK v i) ^ cL v i 1) : sm (fun n => if isq v i s n = true then 1 else 0) (cS v i) = s * s := by
  rw [← sq_sum hi hc hd r0 r1 (fun _ => 1)]
  have : ∀ n, sm (fun _ => 1) n = n := by
    intro n
    induction n with
    | zero => rfl
    | succ n ih => show sm (fun _ => 1) n + 1 = _; rw [ih]
  rw [sm_cg (g := fun _ => s * 1) s (fun x _ => by rw [this, Nat.mul_one]), sm_mul, this]
/-! both in a window -/
theorem wb_neg : ∀ m, m < 65 → ∀ l, l < 66 → m < l → ¬ nI 0 < nI m - nI l + nI 1 := by decide +kernel
theorem K_wb {M : q_M} {a b s w : Nat} (ha : a < 64) (hb : b < 64) (hs : s ≤ 64) (w1 : 1 ≤ w) (hw : w ≤ s) : q_CL 124 [.inl (nI a), .inl (nI b), .inl (nI s), .inl (nI w)] M = some (some (.inl (nI (am2 a b s w))), M) := by
  have mx : (if nI a < nI b then nI b else nI a) = nI (if a ≤ b then b else a) := by
    by_cases c : a < b
    · rw [if_pos (nI_lt c (by omega)), if_pos (by omega)]
    · rw [if_neg (nI_nlt (by omega) (by omega))]
      congr 1
      split <;> omega
  have mn : (if nI b < nI a then nI b else nI a) = nI (if a ≤ b then a else b) := by
    by_cases c : b < a
    · rw [if_pos (nI_lt c (by omega)), if_neg (by omega)]
    · rw [if_neg (nI_nlt (by omega) (by omega)), if_pos (by omega)]
  have ea : am2 a b s w = am (if a ≤ b then a else b) (if a ≤ b then b else a) s w := by
    unfold am2
    split <;> rfl
  rw [C_X11_windowsWithBoth, mx, mn, ea]
  have ht : (if a ≤ b then b else a) < 64 := by split <;> omega
  have hf : (if a ≤ b then a else b) < 64 := by split <;> omega
  generalize (if a ≤ b then b else a) = t at *
  generalize (if a ≤ b then a else b) = f at *
  have ls : (if nI 0 < nI t - nI w + nI 1 then nI t - nI w + nI 1 else nI 0) = nI (t + 1 - w) := by
    by_cases c : t + 1 ≤ w
    · have := am_neg t ht w (by omega) c
      rw [if_neg (by rw [nI_0]; exact Int32.not_lt.mpr this), show t + 1 - w = 0 by omega]
    · rw [pk_sub (by omega), nI_add, if_pos (nI_lt (by omega) (by omega)), show t - w + 1 = t + 1 - w by omega]
  have ms : (if nI f < nI s - nI w then nI f else nI s - nI w) = nI (if f ≤ s - w then f else s - w) := by
    rw [pk_sub hw]
    by_cases c : f < s - w
    · rw [if_pos (nI_lt c (by omega)), if_pos (by omega)]
    · rw [if_neg (nI_nlt (by omega) (by omega))]
      congr 1
      split <;> omega
  rw [ls, ms]
  unfold am
  have hm : (if f ≤ s - w then f else s - w) < 64 := by split <;> omega
  generalize (if f ≤ s - w then f else s - w) = m at *
  by_cases c : m < t + 1 - w
  · rw [if_neg (wb_neg m (by omega) (t + 1 - w) (by omega) c), show m + 1 - (t + 1 - w) = 0 by omega]
  · rw [pk_sub (by omega), nI_add, if_pos (nI_lt (by omega) (by omega)), show m - (t + 1 - w) + 1 = m + 1 - (t + 1 - w) by omega]
theorem am2_c (a b s w : Nat) : am2 a b s w = am2 b a s w := by
  unfold am2
  by_cases c : a = b
  · rw [c]
  · by_cases d : a ≤ b
    · rw [if_pos d, if_neg (by omega)]
    · rw [if_neg d, if_pos (by omega)]
