/-! ===== THE CLASS: jump, spans ===== -/
theorem K_jump_no {v : Nat → Nat} (wc : WC v) {M : q_M} (h : SH M) (c : CS M 2 v) (wz : WZ M) {w : Nat → Int32} (cr : CR M 2 w) {x : Int32} {l : Int64} (n : ¬ (∃ i, i < v 0 ∧ x = nI i ∧ ∃ lo hi, isW v i w lo hi)) : ∃ M1, q_CL 108 [.inr (.inr (some 1)), .inl x, .inr (.inl l)] M = some (some (.inr (.inl (-1))), M1) ∧ FC wsc M M1 ∧ WZ M1 := by
  rw [C_X11_jump]
  simp only [c_sel h, Option.bind_some]
  by_cases hx : ∃ i, i < v 0 ∧ x = nI i
  · obtain ⟨i, hi, rfl⟩ := hx
    obtain ⟨o, o1, o2⟩ := K_cA wc h c hi
    rw [o1]
    simp only [z_rR, Option.bind_some, c_sel h]
    rcases K_eW (wc.2 i hi) h wz cr o2 with ⟨lo, hi', M1, z, _⟩ | ⟨_, M1, e, f, z⟩
    · exact absurd ⟨i, hi, rfl, lo, hi', z⟩ n
    · refine ⟨M1, ?_, f, z⟩
      rw [e]; rfl
  · refine ⟨M, ?_, FC.rf _ M, wz⟩
    rw [K_cA_no wc h c hx]
    simp only [z_rR, Option.bind_some, c_sel h, K_eW0, z_rI]
    rfl
theorem Nx_cg {P Q : Nat → Prop} {S f : Nat} {r : Option Nat} (h : ∀ n, n < S → (P n ↔ Q n)) (x : Nx P S f r) : Nx Q S f r := by
  cases r with
  | none => exact fun n h1 h2 z => x n h1 h2 ((h n h2).mpr z)
  | some n => exact ⟨x.1, x.2.1, (h n x.2.1).mp x.2.2.1, fun m h1 h2 z => x.2.2.2 m h1 h2 ((h m (by have := x.2.1; omega)).mpr z)⟩
theorem wP_w {v : Nat → Nat} {i o : Nat} {lo hi lo' hi' : Nat → Nat} (e : ∀ x, x < 3 → lo' x = lo x ∧ hi' x = hi x) (n : Nat) : wP v i o lo' hi' n ↔ wP v i o lo hi n := by
  have : inw lo' hi' (plI v i n) ↔ inw lo hi (plI v i n) := by
    unfold inw
    constructor
    · intro q a ha; rw [← (e a ha).1, ← (e a ha).2]; exact q a ha
    · intro q a ha; rw [(e a ha).1, (e a ha).2]; exact q a ha
  unfold wP
  rw [this]
theorem isW_h {v : Nat → Nat} {i : Nat} (hc : okI v i) {w : Nat → Int32} {lo hi : Nat → Nat} (z : isW v i w lo hi) : ∀ a, a < 3 → lo a ≤ hi a ∧ hi a < 2 ^ 20 := fun a ha => by
  have := z a ha
  have := room_le hc ha
  omega
theorem K_jump {v : Nat → Nat} (wc : WC v) {M : q_M} (h : SH M) (c : CS M 2 v) (wz : WZ M) {w : Nat → Int32} (cr : CR M 2 w) {i : Nat} (hi : i < v 0) {lo hh : Nat → Nat} (hw : isW v i w lo hh) {l : Int64} {q : Option Nat} (hq : (l < lN 0 ∧ Nx (wP v i 1 lo hh) (cS v i) 0 q) ∨ ∃ n, n < 2 ^ 63 ∧ l = lN n ∧ Nx (wP v i 1 lo hh) (cS v i) (n + 1) q) : ∃ M1, q_CL 108 [.inr (.inr (some 1)), .inl (nI i), .inr (.inl l)] M = some (some (.inr (.inl (rL q))), M1) ∧ FC wsc M M1 ∧ WZ M1 := by
  have hc := wc.2 i hi
  have c62 := cS_62 hc
  have S1 : 1 ≤ cS v i := by rw [← okI_S hc]; exact Nat.pow_pos (by have := cB_2 (cK v i); omega)
  obtain ⟨o, o1, o2⟩ := K_cA wc h c hi
  rcases K_eW hc h wz cr o2 with ⟨lo', hi', A, z, e, f, wk, wd, wv⟩ | ⟨n, _⟩
  rotate_left
  · exact absurd ⟨lo, hh, hw⟩ n
  have eW := isW_u hc hw z
  have cg : ∀ n, n < cS v i → (Pr (cmO (cK v i) (cD v i) (cL v i)) (lsm (cL v i)) 1 lo' hi' n ↔ wP v i 1 lo hh n) := fun n _ => wP_w eW n
  have coA := wk.2.1
  rw [C_X11_jump]
  simp only [c_sel h, Option.bind_some, o1, z_rR, e, z_rI]
  rw [if_neg (show ¬ nI 1 = 0 by decide +kernel)]
  simp only [coA.tt, Option.bind_some, okI_S hc, lN_sub S1, lg_cmp_lt]
  have sk : ∀ f0, f0 < cS v i → Nx (wP v i 1 lo hh) (cS v i) f0 q → ∃ M1, q_CL 74 [.inr (.inr (some 25)), .inr (.inl (lN f0)), .inl (nI 1)] A = some (some (.inr (.inl (rL q))), M1) ∧ FC wsc M M1 ∧ WZ M1 := fun f0 hf nx => by
    obtain ⟨q', B, b1, b2, b3, b4⟩ := K_seek (c := o) (i := i) hc.1 (o := 1) (Or.inr rfl) (isW_h hc z) wk wv wd (f := f0) (by rw [okI_S hc]; exact hf) (by rw [okI_S hc]; omega)
    rw [okI_S hc] at b2
    have := Nx.uniq (Nx_cg cg b2) nx
    subst this
    exact ⟨B, b1, f.tr b3.1, WZ.wd (b3.w0 wd)⟩
  have m1 : (-1 : Int64).toInt = -1 := by decide +kernel
  rcases hq with ⟨l0, nx⟩ | ⟨n, hn, rfl, nx⟩
  · have lt : l < lN (cS v i - 1) := by
      have a := Int64.lt_iff_toInt_lt.mp l0
      rw [pk_lT (by omega)] at a
      exact Int64.lt_iff_toInt_lt.mpr (by rw [pk_lT (by omega)]; omega)
    rw [if_pos lt]
    have e1 : (if (-1) < l then l else (-1)) + lN 1 = lN 0 := by
      rw [if_neg (fun u => by
        have a := Int64.lt_iff_toInt_lt.mp l0
        have b := Int64.lt_iff_toInt_lt.mp u
        rw [pk_lT (by omega)] at a
        rw [m1] at b
        omega)]
      decide +kernel
    obtain ⟨M1, u1, u2, u3⟩ := sk 0 (by omega) nx
    refine ⟨M1, ?_, u2, u3⟩
    simp only [c_now wk.1 (show (1, 4, 25) ∈ q_crs by decide), Option.bind_some, w_sel wk.1, e1, u1, z_rL]
  · simp only [pk_lLT hn (show cS v i - 1 < 2 ^ 63 by omega)]
    by_cases lt : n < cS v i - 1
    · rw [if_pos lt]
      have e1 : (if (-1) < lN n then lN n else (-1)) + lN 1 = lN (n + 1) := by
        rw [if_pos (Int64.lt_iff_toInt_lt.mpr (by rw [pk_lT hn, m1]; omega)), lN_add]
      obtain ⟨M1, u1, u2, u3⟩ := sk (n + 1) (by omega) nx
      refine ⟨M1, ?_, u2, u3⟩
      simp only [c_now wk.1 (show (1, 4, 25) ∈ q_crs by decide), Option.bind_some, w_sel wk.1, e1, u1, z_rL]
    · rw [if_neg lt]
      have : q = none := Nx.uniq nx (fun m h1 h2 => by omega)
      subst this
      exact ⟨A, rfl, f, WZ.wd wd⟩
/-! arraycopy -/
theorem z_cpL {M : q_M} {a b n : Nat} (ha : M.1 a = 15) (hb : M.1 b = 15) (la : n ≤ M.2.1 a) (lb : n ≤ M.2.1 b) (hn : n < 2 ^ 31) : ∃ M1, q_copy M a b (nI 0) (nI 0) (nI n) = some M1 ∧ FC (fun x => x = b) M M1 ∧ (∀ k, gL M1 b k = if k < n then gL M a k else gL M b k) ∧ (∀ x k, gI M1 x k = gI M x k) ∧ ∀ x k, gR M1 x k = gR M x k := by
  refine ⟨(M.1, M.2.1, M.2.2.1, va_up M.2.2.2.1 b (va_cpy (M.2.2.2.1 a) (M.2.2.2.1 b) 0 0 n), M.2.2.2.2), ?_, ⟨rfl, rfl, rfl, fun x k hx => ⟨rfl, ?_, rfl⟩, fun _ _ _ => rfl⟩, fun k => ?_, fun _ _ => rfl, fun _ _ => rfl⟩
  · unfold q_copy
    rw [nI_clamp (show 0 < 2 ^ 31 by omega), nI_clamp hn, if_pos ⟨⟨nI_pos' (by omega), nI_pos' (by omega), nI_pos' hn⟩, by omega, by omega, by rw [ha, hb]⟩, if_neg (by omega), if_pos ha]
  · show va_up M.2.2.2.1 b _ x k = M.2.2.2.1 x k
    rw [va_up_ne _ _ hx]
  · show va_up M.2.2.2.1 b (va_cpy (M.2.2.2.1 a) (M.2.2.2.1 b) 0 0 n) b k = _
    rw [va_up_self]
    unfold va_cpy
    by_cases q : k < n
    · rw [if_pos (by omega), if_pos q, Nat.zero_add, Nat.sub_zero]; rfl
    · rw [if_neg (by omega), if_neg q]; rfl
theorem z_cpI {M : q_M} {a b n : Nat} (ha : M.1 a = 14) (hb : M.1 b = 14) (la : n ≤ M.2.1 a) (lb : n ≤ M.2.1 b) (hn : n < 2 ^ 31) : ∃ M1, q_copy M a b (nI 0) (nI 0) (nI n) = some M1 ∧ FC (fun x => x = b) M M1 ∧ (∀ k, gI M1 b k = if k < n then gI M a k else gI M b k) ∧ (∀ x k, gL M1 x k = gL M x k) ∧ ∀ x k, gR M1 x k = gR M x k := by
  refine ⟨(M.1, M.2.1, va_up M.2.2.1 b (va_cpy (M.2.2.1 a) (M.2.2.1 b) 0 0 n), M.2.2.2), ?_, ⟨rfl, rfl, rfl, fun x k hx => ⟨?_, rfl, rfl⟩, fun _ _ _ => rfl⟩, fun k => ?_, fun _ _ => rfl, fun _ _ => rfl⟩
  · unfold q_copy
    rw [nI_clamp (show 0 < 2 ^ 31 by omega), nI_clamp hn, if_pos ⟨⟨nI_pos' (by omega), nI_pos' (by omega), nI_pos' hn⟩, by omega, by omega, by rw [ha, hb]⟩, if_pos ha]
  · show va_up M.2.2.1 b _ x k = M.2.2.1 x k
    rw [va_up_ne _ _ hx]
  · show va_up M.2.2.1 b (va_cpy (M.2.2.1 a) (M.2.2.1 b) 0 0 n) b k = _
    rw [va_up_self]
    unfold va_cpy
    by_cases q : k < n
    · rw [if_pos (by omega), if_pos q, Nat.zero_add, Nat.sub_zero]; rfl
    · rw [if_neg (by omega), if_neg q]; rfl
/-- an object of spans: itself, its firsts, its lasts -/
def SpO (M : q_M) (s f l : Nat) : Prop := M.1 s = 7 ∧ gR M s 0 = some f ∧ gR M s 1 = some l ∧ M.1 f = 15 ∧ M.2.1 f = 200 ∧ M.1 l = 15 ∧ M.2.1 l = 200 ∧ s ≠ f ∧ s ≠ l ∧ f ≠ l
/-- what it holds -/
def SpV (M : q_M) (s f l n pl : Nat) (F G : Nat → Nat) : Prop := gI M s 2 = nI n ∧ gL M s 3 = lN pl ∧ ∀ k, k < n → gL M f k = lN (F k) ∧ gL M l k = lN (G k)
theorem SpO.rt {M M1 : q_M} {s f l : Nat} (h : SpO M s f l) (e1 : M1.1 = M.1) (e2 : M1.2.1 = M.2.1) (e3 : ∀ x k, gR M1 x k = gR M x k) : SpO M1 s f l := by
  obtain ⟨a1, a2, a3, a4, a5, a6, a7, a8⟩ := h
  exact ⟨by rw [e1]; exact a1, (e3 _ _).trans a2, (e3 _ _).trans a3, by rw [e1]; exact a4, by rw [e2]; exact a5, by rw [e1]; exact a6, by rw [e2]; exact a7, a8⟩
theorem SpO.t {M : q_M} {s f l : Nat} (h : SpO M s f l) : q_isT 7 (M.1 s) = true := by rw [h.1]; rfl
theorem told_o {M : q_M} (h : SH M) : SpO M 6 7 8 := ⟨h.tg (by omega) rfl, h.cr (6, 0, 7) (by decide), h.cr (6, 1, 8) (by decide), h.tg (by omega) rfl, h.ln (by omega) (by omega) rfl, h.tg (by omega) rfl, h.ln (by omega) (by omega) rfl, by omega, by omega, by omega⟩
theorem spare_o {M : q_M} (h : SH M) : SpO M 42 43 44 := ⟨h.tg (by omega) rfl, h.cr (42, 0, 43) (by decide), h.cr (42, 1, 44) (by decide), h.tg (by omega) rfl, h.ln (by omega) (by omega) rfl, h.tg (by omega) rfl, h.ln (by omega) (by omega) rfl, by omega, by omega, by omega⟩
theorem K_spCopy {M : q_M} {s f l t f' l' n pl : Nat} {F G : Nat → Nat} (hs : SpO M s f l) (ht : SpO M t f' l') (hv : SpV M t f' l' n pl F G) (hn : n ≤ 200) (d : t ≠ s ∧ t ≠ f ∧ t ≠ l ∧ f' ≠ s ∧ f' ≠ f ∧ f' ≠ l ∧ l' ≠ s ∧ l' ≠ f ∧ l' ≠ l) : ∃ M1, q_CL 57 [.inr (.inr (some s)), .inr (.inr (some t))] M = some (none, M1) ∧ FC (fun a => a = s ∨ a = f ∨ a = l) M M1 ∧ (∀ x k, gR M1 x k = gR M x k) ∧ SpV M1 s f l n pl F G := by
  obtain ⟨v1, v2, v3⟩ := hv
  obtain ⟨d1, d2, d3, d4, d5, d6, d7, d8, d9⟩ := d
  have hs' := hs
  obtain ⟨a1, a2, a3, a4, a5, a6, a7, a8, a9, a10⟩ := hs
  obtain ⟨b1, b2, b3, b4, b5, b6, b7, b8, b9, b10⟩ := ht
  have ts : q_isT 7 (M.1 s) = true := by rw [a1]; rfl
  have tt : q_isT 7 (M.1 t) = true := by rw [b1]; rfl
  have tsA : q_isT 7 ((stI M s 2 (nI n)).1 s) = true := ts
  have ttA : q_isT 7 ((stI M s 2 (nI n)).1 t) = true := tt
  have tsB : q_isT 7 ((stL (stI M s 2 (nI n)) s 3 (lN pl)).1 s) = true := ts
  have ttB : q_isT 7 ((stL (stI M s 2 (nI n)) s 3 (lN pl)).1 t) = true := tt
  obtain ⟨C, c1, c2, c3, c4, c5⟩ := z_cpL (M := stL (stI M s 2 (nI n)) s 3 (lN pl)) (a := f') (b := f) (n := n) b4 a4 (by show n ≤ M.2.1 f'; omega) (by show n ≤ M.2.1 f; omega) (by omega)
  have tsC : q_isT 7 (C.1 s) = true := by rw [c2.1]; exact ts
  have ttC : q_isT 7 (C.1 t) = true := by rw [c2.1]; exact tt
  obtain ⟨D, e1, e2, e3, e4, e5⟩ := z_cpL (M := C) (a := l') (b := l) (n := n) (by rw [c2.1]; exact b6) (by rw [c2.1]; exact a6) (by rw [c2.2.1]; show n ≤ M.2.1 l'; omega) (by rw [c2.2.1]; show n ≤ M.2.1 l; omega) (by omega)
  have gA : gL (stI M s 2 (nI n)) t 3 = lN pl := v2
  have g2 : gI (stL (stI M s 2 (nI n)) s 3 (lN pl)) s 2 = nI n := by rw [gI_stL, gI_self]
  have g2C : gI C s 2 = nI n := (c4 s 2).trans g2
  have rC0 : ∀ x k, gR C x k = gR M x k := fun x k => (c5 x k).trans rfl
  refine ⟨D, ?_, ?_, fun x k => (e5 x k).trans (rC0 x k), (e4 s 2).trans g2C, ?_, fun k hk => ⟨?_, ?_⟩⟩
  · rw [C_X7_copyFrom]
    simp only [Option.bind_some, z_fI tt, v1, z_sI ts, z_fL ttA, gA, z_sL tsA, z_fR ttB, z_fR tsB, gR_stL, gR_stI, b2, a2, z_fI tsB, g2, c1, z_fR ttC, z_fR tsC, rC0, b3, a3, z_fI tsC, g2C, e1]
  · have P : ∀ x, x = s ∨ x = f ∨ x = l → (fun a => a = s ∨ a = f ∨ a = l) x := fun x z => z
    exact (((FC.rf (fun a => a = s ∨ a = f ∨ a = l) M).sI (Or.inl rfl)).sL (Or.inl rfl)).tr ((c2.wk fun a z => Or.inr (Or.inl z)).tr (e2.wk fun a z => Or.inr (Or.inr z)))
  · rw [(e2.2.2.2.1 s 3 a9).2.1, (c2.2.2.2.1 s 3 a8).2.1, gL_self]
  · rw [(e2.2.2.2.1 f k a10).2.1, c3, if_pos hk, gL_oth (by omega), gL_stI]
    exact (v3 k hk).1
  · rw [e3, if_pos hk, (c2.2.2.2.1 l' k d8).2.1, gL_oth (by omega), gL_stI]
    exact (v3 k hk).2
