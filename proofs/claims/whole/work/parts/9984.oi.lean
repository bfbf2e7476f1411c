/-! ===== WINDOWS AND FINDS ===== -/
def OKV (k r : Nat) (as : List q_V) (L : Nat) (xs : Nat → Int32) (M : q_M) : Prop := ∃ M1 M2, q_CL k (.inr (.inr (some 1)) :: as) M = some (none, M1) ∧ SH M1 ∧ SC L xs M1 ∧ q_CL r (.inr (.inr (some 49)) :: as) M1 = some (none, M2) ∧ JV L xs M2 ∧ gN M2 ≤ gN M + 43 ∧ gS M2 ≤ gS M + 1200
theorem SI.corner {P : Nat → Prop} {M M1 : q_M} {v : Nat → Nat} {w w' : Nat → Int32} (si : SI M 2 v w) (f : FC P M M1) (g : 63 ≤ gN M) (hP : ∀ a, P a → a = 5) (cr : CR M1 2 w') : SI M1 2 v w' := by
  obtain ⟨cs, _, tl, hs, fn, rk, lz⟩ := si
  have no : ∀ a, a ≠ 5 → ¬ P a := fun a h1 z => h1 (hP a z)
  have hp : ∀ a, P a → a < 63 ∧ a ≠ 23 := fun a z => by have := hP a z; omega
  exact ⟨cs.fb f.fb g hp (no 2 (by omega)) (no 3 (by omega)), cr, tl.fb f.fb g ⟨no 6 (by omega), no 7 (by omega), no 8 (by omega)⟩, hs.fb f.fb g (fun a _ z => hp a z) (by omega) (fun j hj => no _ (by omega)), fn.fb f.fb g (fun a _ z => hp a z) (by omega) ⟨no _ (by omega), no _ (by omega), no _ (by omega)⟩, rk.fb f.fb (by omega) ⟨no _ (by omega), no _ (by omega), no _ (by omega)⟩, lz.fb f.fb g (fun k hk => no _ (by omega))⟩
def w3 (w : Nat → Int32) (c : Nat) (x y z : Int32) (j : Nat) : Int32 := if j = c then x else if j = c + 1 then y else if j = c + 2 then z else w j
theorem O_corner {L : Nat} {xs : Nat → Int32} {M : q_M} (J : JV L xs M) {k r c : Nat} (hc : c = 0 ∨ c = 3) (x y z : Int32) (hk : ∀ M, SH M → q_CL k [.inr (.inr (some 1)), .inl x, .inl y, .inl z] M = some (none, stI (stI (stI M 5 c x) 5 (c + 1) y) 5 (c + 2) z)) (hr : ∀ M, SH M → q_CL r [.inr (.inr (some 49)), .inl x, .inl y, .inl z] M = some (none, stL (stL (stL M 50 (49 + c) x.toInt64) 50 (49 + c + 1) y.toInt64) 50 (49 + c + 2) z.toInt64)) : OKV k r [.inl x, .inl y, .inl z] L xs M := by
  obtain ⟨v, w, bt, n, f, V, W, I⟩ := J
  have I0 := I
  obtain ⟨h, sc, ib, wz, pv, ri, wi, si, xi, yi, im⟩ := I0
  have g := h.2.2.2
  have fk : FC (fun a => a = 5) M (stI (stI (stI M 5 c x) 5 (c + 1) y) 5 (c + 2) z) := (((FC.rf (fun a => a = 5) M).sI rfl).sI rfl).sI rfl
  have cP : cls (fun a => a = 5) := fun a z => by have z : a = 5 := z; omega
  have cr : CR (stI (stI (stI M 5 c x) 5 (c + 1) y) 5 (c + 2) z) 2 (w3 w c x y z) := fun j hj => by
    have := si.2.1 j hj
    show gI (stI (stI (stI M 5 c x) 5 (c + 1) y) 5 (c + 2) z) 5 j = w3 w c x y z j
    unfold w3
    simp only [gI_stI]
    by_cases c1 : j = c
    · rw [if_neg (by omega), if_neg (by omega), if_pos ⟨trivial, c1⟩, if_pos c1]
    · by_cases c2 : j = c + 1
      · rw [if_neg (by omega), if_pos ⟨trivial, c2⟩, if_neg c1, if_pos c2]
      · by_cases c3 : j = c + 2
        · rw [if_pos ⟨trivial, c3⟩, if_neg c1, if_neg c2, if_pos c3]
        · rw [if_neg (by omega), if_neg (by omega), if_neg (by omega), if_neg c1, if_neg c2, if_neg c3]; exact this
  obtain ⟨m1, m2, m3, m4, m5, _⟩ := I.mid fk.fb cP
  have k1 := hk M h
  generalize stI (stI (stI M 5 c x) 5 (c + 1) y) 5 (c + 2) z = M1 at *
  have fx : FX0 M1 (stL (stL (stL M1 50 (49 + c) x.toInt64) 50 (49 + c + 1) y.toInt64) 50 (49 + c + 2) z.toInt64) := ⟨(((FC.rf rfc M1).sL (by unfold rfc; omega)).sL (by unfold rfc; omega)).sL (by unfold rfc; omega), fun _ => rfl, fun k => by simp only [gL_stL]; rw [if_neg (by omega), if_neg (by omega), if_neg (by omega)]⟩
  have ri2 : RI (stL (stL (stL M1 50 (49 + c) x.toInt64) 50 (49 + c + 1) y.toInt64) 50 (49 + c + 2) z.toInt64) v := fun i h1 h2 => by
    simp only [gL_stL]
    rw [if_neg (by omega), if_neg (by omega), if_neg (by omega)]
    exact m3 i h1 h2
  have wi2 : WI (stL (stL (stL M1 50 (49 + c) x.toInt64) 50 (49 + c + 1) y.toInt64) 50 (49 + c + 2) z.toInt64) (w3 w c x y z) := fun j hj => by
    have := m4 j hj
    unfold w3
    simp only [gL_stL]
    by_cases c1 : j = c
    · rw [if_neg (by omega), if_neg (by omega), if_pos ⟨trivial, by omega⟩, if_pos c1]
    · by_cases c2 : j = c + 1
      · rw [if_neg (by omega), if_pos ⟨trivial, by omega⟩, if_neg c1, if_pos c2]
      · by_cases c3 : j = c + 2
        · rw [if_pos ⟨trivial, by omega⟩, if_neg c1, if_neg c2, if_pos c3]
        · rw [if_neg (by omega), if_neg (by omega), if_neg (by omega), if_neg c1, if_neg c2, if_neg c3]; exact this
  have xi2 : XI (stL (stL (stL M1 50 (49 + c) x.toInt64) 50 (49 + c + 1) y.toInt64) 50 (49 + c + 2) z.toInt64) bt n := m5
  refine ⟨M1, _, k1, m1, m2, hr M1 m1, ⟨v, w3 w c x y z, bt, n, f, V, W, I.step fk.fb cP (WZ.fc fk (by omega) wz) (si.corner fk g (fun a z => z) cr) (YI.cl fk.fb g (fun a z => by have z : a = 5 := z; omega) yi) fx pv ri2 wi2 xi2⟩, ?_, ?_⟩
  · rw [fx.1.gn, fk.gn]; omega
  · rw [fx.1.gs, fk.gs]; omega
theorem O_low {L : Nat} {xs : Nat → Int32} {M : q_M} (J : JV L xs M) (x y z : Int32) : OKV 102 163 [.inl x, .inl y, .inl z] L xs M := O_corner J (c := 0) (Or.inl rfl) x y z (fun _ h => K_low h x y z) (fun _ h => R_low h x y z)
theorem O_high {L : Nat} {xs : Nat → Int32} {M : q_M} (J : JV L xs M) (x y z : Int32) : OKV 103 164 [.inl x, .inl y, .inl z] L xs M := O_corner J (c := 3) (Or.inr rfl) x y z (fun _ h => K_high h x y z) (fun _ h => R_high h x y z)
theorem spL_so {P : Nat → Prop} {S : Nat} : ∀ (l : List (Nat × Nat)) (f : Nat), spL P S f l → (∀ t, t < l.length → (l.getD t (0, 0)).1 ≤ (l.getD t (0, 0)).2 ∧ f ≤ (l.getD t (0, 0)).1) ∧ ∀ t, t + 1 < l.length → (l.getD t (0, 0)).2 ≤ (l.getD (t + 1) (0, 0)).1
  | [], f, _ => ⟨fun t ht => by simp at ht, fun t ht => by simp at ht⟩
  | (a, b) :: r, f, h => by
    obtain ⟨h1, h2, h3, h4, h5, h6, h7⟩ := h
    obtain ⟨i1, i2⟩ := spL_so r (b + 1) h7
    refine ⟨fun t ht => ?_, fun t ht => ?_⟩
    · cases t with
      | zero => exact ⟨h2, h1⟩
      | succ t =>
        have := i1 t (by simpa using ht)
        refine ⟨this.1, ?_⟩
        show f ≤ (r.getD t (0, 0)).1
        omega
    · cases t with
      | zero =>
        have := (i1 0 (by simpa using ht)).2
        show b ≤ (r.getD 0 (0, 0)).1
        omega
      | succ t => exact i2 t (by simpa using ht)
theorem spW_o {v : Nat → Nat} {l : List (Nat × Nat)} {vo j : Nat} (hj : j ≤ 400) : ∀ x, x < 55 ∨ 457 ≤ x → spW v l vo j x = v x := fun x hx => by
  unfold spW
  rw [if_neg (by omega), if_neg (by omega), if_neg (by omega)]
theorem SO_sp {P : Nat → Prop} {S : Nat} {v : Nat → Nat} {l : List (Nat × Nat)} {vo : Nat} (h : spL P S 0 l) (hl : l.length ≤ 200) : SO (spW v l vo (2 * l.length)) := by
  obtain ⟨i1, i2⟩ := spL_so l 0 h
  have e5 : spW v l vo (2 * l.length) 55 = l.length := rfl
  refine ⟨by rw [e5]; exact hl, fun x hx => ?_⟩
  rw [e5] at hx
  have ev : ∀ y, y < 2 * l.length → spW v l vo (2 * l.length) (57 + y) = flt l y := fun y hy => by
    unfold spW
    rw [if_neg (by omega), if_neg (by omega), if_pos (by omega), show 57 + y - 57 = y by omega]
  rw [ev x (by omega), show 57 + x + 1 = 57 + (x + 1) by omega, ev (x + 1) (by omega)]
  unfold flt
  by_cases c : x % 2 = 0
  · rw [if_pos c, if_neg (by omega), show (x + 1) / 2 = x / 2 by omega]
    exact (i1 (x / 2) (by omega)).1
  · rw [if_neg c, if_pos (by omega), show (x + 1) / 2 = x / 2 + 1 by omega]
    exact i2 (x / 2) (by omega)
theorem sp_ne {v : Nat → Nat} {i : Nat} (hc : okI v i) {w : Nat → Int32} {lo hi : Nat → Nat} (hw : isW v i w lo hi) {l : List (Nat × Nat)} (h : spL (wP v i 1 lo hi) (cS v i) 0 l) : l.length ≠ 0 := by
  intro z
  have e : l = [] := List.eq_nil_of_length_eq_zero z
  subst e
  have hq : ∀ a, a < 3 → lo a < cB (cK v i) ^ cL v i a := fun a ha => by have := hw a ha; omega
  refine h (npI v i lo) (by omega) (npI_lt hc hq) (Or.inl ⟨rfl, fun a ha => ?_⟩)
  rw [plI_npI hc hq a ha]
  exact ⟨Nat.le_refl _, (hw a ha).2.2.1⟩
theorem gsp_q (a : Nat) (z : gsp a) : 25 ≤ a ∧ a < 49 := by unfold gsp wsc at z; omega
theorem tls_q (a : Nat) (z : tls a) : (6 ≤ a ∧ a ≤ 8) ∨ (25 ≤ a ∧ a < 49) := by unfold tls gsp wsc at z; omega
theorem O_spans {L : Nat} {xs : Nat → Int32} {M : q_M} (J : JV L xs M) (x : Int32) : OKI 104 169 [.inl x] L xs M := by
  obtain ⟨v, w, bt, n, f, V, W, I⟩ := J
  have I0 := I
  obtain ⟨h, sc, ib, wz, pv, ri, wi, si, xi, yi, im⟩ := I0
  have cs := si.1
  have cr := si.2.1
  have wc := pv.1.1
  have v8 := wc.1
  have g := h.2.2.2
  rcases R_spans wc h ri wi x with ⟨no, _⟩ | ⟨i, lo, hi, l, hi8, rfl, hw, sl, _⟩
  · refine ⟨_, I.ask wsc_q (K_spans_no wc h cs wz cr no) (fun M1 h1 r1 w1 _ => ?_)⟩
    rcases R_spans wc h1 r1 w1 x with ⟨_, e⟩ | ⟨i, lo, hi, l, hi8, e1, hw, _⟩
    · exact ⟨M1, e, NR.rf M1⟩
    · exact absurd ⟨i, hi8, e1, lo, hi, hw⟩ no
  have hc := wc.2 i hi8
  have again : ∀ M1, SH M1 → RI M1 v → WI M1 w → ((l.length ≤ 200 ∧ ∃ M2, q_CL 169 [.inr (.inr (some 49)), .inl (nI i)] M1 = some (some (.inl (nI l.length)), M2) ∧ FL s58 M1 M2 ∧ RI M2 (spW v l (volW lo hi 3) (2 * l.length)) ∧ WI M2 w) ∨ (200 < l.length ∧ ∃ M2, q_CL 169 [.inr (.inr (some 49)), .inl (nI i)] M1 = some (some (.inl (-2)), M2) ∧ FL (fun a => a = 58) M1 M2)) := by
    intro M1 h1 r1 w1
    rcases R_spans wc h1 r1 w1 (nI i) with ⟨no, _⟩ | ⟨i', lo', hi', l', hi8', e1, hw', sl', y⟩
    · exact absurd ⟨i, hi8, rfl, lo, hi, hw⟩ no
    · have eq := nU (by omega) (by omega) e1
      subst eq
      have u := isW_u hc hw hw'
      have el := spL_uniq l' l 0 (spL_cg (fun n _ => wP_w u n) l' 0 sl') sl
      subst el
      rw [volW_cg 3 (fun x hx => u x hx)] at y
      exact y
  by_cases c : l.length ≤ 200
  · obtain ⟨M1, k1, k2, k3, k4⟩ := (K_spans wc h cs wz cr hi8 hw sl).1 c
    have cl : cls tls := fun a z => by have := tls_q a z; omega
    obtain ⟨m1, _, m3, m4, m5, _⟩ := I.mid k2.fb cl
    rcases again M1 m1 m3 m4 with ⟨_, M2, c1, c2, c3, c4⟩ | ⟨z, _⟩
    · have fx : FX M1 M2 := FX.f2 (F2.fl c2) (fun a z => by unfold s58 at z; omega)
      have eo := spW_o (v := v) (l := l) (vo := volW lo hi 3) (j := 2 * l.length) (by omega)
      have ne := sp_ne hc hw sl
      have pv2 : PV (spW v l (volW lo hi 3) (2 * l.length)) := ⟨SV_hi (fun x hx => eo x (by omega)) pv.1, SO_sp sl c, fun z => absurd (show l.length = 0 from z) ne⟩
      exact ⟨_, I.act k1 k2.fb cl (by omega) (by omega) k3 (si.tell pv k2 g tls_q eo k4) (YI.cl k2.fb g (fun a z => by have := tls_q a z; unfold tls gsp wsc at z; omega) yi) c1 fx.1 pv2 c3 c4 (fx.xi m5)⟩
    · omega
  · obtain ⟨M1, k1, k2, k3⟩ := (K_spans wc h cs wz cr hi8 hw sl).2 (by omega)
    refine ⟨_, I.ask gsp_q ⟨M1, k1, k2, k3⟩ (fun M1 h1 r1 w1 _ => ?_)⟩
    rcases again M1 h1 r1 w1 with ⟨z, _⟩ | ⟨_, M2, c1, c2⟩
    · exact absurd z c
    · exact ⟨M2, c1, NR.f2 (F2.fl c2) (fun a z => Or.inr z)⟩
theorem few_o {n : Nat} (hn : 1 ≤ n) : ∀ k v, v 55 ≤ 200 → (∀ x, x < 55 ∨ 457 ≤ x → fewV n k v x = v x) ∧ fewV n k v 56 = v 56 ∧ (fewV n k v 55 = 0 → v 55 = 0)
  | 0, v, _ => ⟨fun _ _ => rfl, rfl, fun z => z⟩
  | k + 1, v, h => by
    by_cases c : v 55 ≤ n
    · have e : fewV n (k + 1) v = v := if_pos c
      rw [e]
      exact ⟨fun _ _ => rfl, rfl, fun z => z⟩
    · have e : fewV n (k + 1) v = fewV n k (mg v (bst v (v 55 - 1))) := if_neg c
      have m5 : mg v (bst v (v 55 - 1)) 55 = v 55 - 1 := va_up_self _ _ _
      have mo : ∀ x, x < 55 ∨ 457 ≤ x ∨ x = 56 → mg v (bst v (v 55 - 1)) x = v x := fun x hx => by
        unfold mg
        rw [va_up_ne _ _ (by omega)]
        unfold mgy
        rw [if_neg (by omega)]
      obtain ⟨i1, i2, i3⟩ := few_o hn k (mg v (bst v (v 55 - 1))) (by omega)
      rw [e]
      refine ⟨fun x hx => (i1 x hx).trans (mo x (by omega)), i2.trans (mo 56 (by omega)), fun z => ?_⟩
      have := i3 z
      omega
theorem O_few {L : Nat} {xs : Nat → Int32} {M : q_M} (J : JV L xs M) (x : Int32) : OKI 106 171 [.inl x] L xs M := by
  obtain ⟨v, w, bt, n, f, V, W, I⟩ := J
  have I0 := I
  obtain ⟨h, sc, ib, wz, pv, ri, wi, si, xi, yi, im⟩ := I0
  have so := pv.2.1
  have g := h.2.2.2
  rcases R_few so h ri wi x with ⟨no, _⟩ | ⟨m, _, m1, m2, rfl, _⟩
  · refine ⟨_, I.ask0 (K_few_no no) (fun M1 h1 r1 w1 _ => ?_)⟩
    rcases R_few so h1 r1 w1 x with ⟨_, e⟩ | ⟨m, _, m1, m2, e1, _⟩
    · exact ⟨M1, e, NR.rf M1⟩
    · exact absurd ⟨m, m1, m2, e1⟩ no
  · have s5 := so.1
    obtain ⟨M1, k1, k2, k3⟩ := K_few so (fun y hy => (ri (57 + y) (by omega) (by omega)).2) h si.2.2.1 ⟨m1, m2⟩
    have cl : cls t678 := fun a z => by unfold t678 at z; omega
    obtain ⟨a1, _, a3, a4, a5, _⟩ := I.mid k2.fb cl
    rcases R_few so a1 a3 a4 (nI m) with ⟨no, _⟩ | ⟨m', M2, m1', m2', e1, c1, c2, c3, c4, c5⟩
    · exact absurd ⟨m, m1, m2, rfl⟩ no
    · have eq := nU m2 m2' e1
      subst eq
      have fx : FX M1 M2 := FX.f50 (F2.fl c2)
      obtain ⟨o1, o2, o3⟩ := few_o m1 200 v s5
      have pv2 : PV (fewV m' 200 v) := ⟨SV_hi (fun x hx => o1 x (by omega)) pv.1, c4, fun z => by rw [o2]; exact pv.2.2 (o3 z)⟩
      exact ⟨_, I.act k1 k2.fb cl (by omega) (by omega) (WZ.fc k2 (by unfold t678; omega) wz) (si.tell pv k2 g (fun a z => Or.inl z) o1 k3) (YI.cl k2.fb g (fun a z => by unfold t678 at z; omega) yi) c1 fx.1 pv2 c3 c5 (fx.xi a5)⟩
/-- finds of both -/
theorem INV.finds {L : Nat} {xs : Nat → Int32} {M M1 M2 : q_M} {v u : Nat → Nat} {w bt : Nat → Int32} {n : Nat} {f : Nat → Bool} {V : Nat → Nat → Nat} {W : Nat → Nat → Int32} (I : INV L xs M v w bt n f V W) {k r : Nat} {as : List q_V} {a : q_V} (hk : q_CL k (.inr (.inr (some 1)) :: as) M = some (some a, M1)) {P : Nat → Prop} (fk : FC P M M1) (hP : ∀ a, P a → (9 ≤ a ∧ a ≤ 11) ∨ (25 ≤ a ∧ a < 49)) (wz : WZ M1) (fn : FN M1 2 u) (e : ∀ x, x < 457 ∨ 1060 ≤ x → u x = v x) (hr : q_CL r (.inr (.inr (some 49)) :: as) M1 = some (some a, M2)) (f2 : F2 f50 M1 M2) (ri : RI M2 u) (wi : WI M2 w) : OK k r as L xs M a := by
  have g := I.1.2.2.2
  have fx := FX.f50 f2
  have cl : cls P := fun a z => by have := hP a z; omega
  have pv := I.2.2.2.2.1
  exact I.act hk fk.fb cl (by omega) (by omega) wz (I.2.2.2.2.2.2.2.1.find pv fk g hP e fn) (YI.cl fk.fb g (fun a z => by have := hP a z; omega) I.2.2.2.2.2.2.2.2.2.1) hr fx.1 (PV_cg pv (SV_hi (fun x hx => e x (by omega)) pv.1) (fun x _ hx => e x (Or.inl hx))) ri wi (fx.xi (I.mid fk.fb cl).2.2.2.2.1)
theorem pt_q (a : Nat) (z : ptP a) : (9 ≤ a ∧ a ≤ 11) ∨ (25 ≤ a ∧ a < 49) := by unfold ptP wsc fdc at z; omega
theorem nr9_q (a : Nat) (z : nrP 9 10 11 a) : (9 ≤ a ∧ a ≤ 11) ∨ (25 ≤ a ∧ a < 49) := by unfold nrP s39 fdc at z; omega
theorem fd9_q (a : Nat) (z : fdc 9 10 11 a) : (9 ≤ a ∧ a ≤ 11) ∨ (25 ≤ a ∧ a < 49) := by unfold fdc at z; omega
theorem O_points {L : Nat} {xs : Nat → Int32} {M : q_M} (J : JV L xs M) (x1 : Int32) : OKI 111 203 [.inl x1] L xs M := by
  obtain ⟨v, w, bt, n, f, V, W, I⟩ := J
  have I0 := I
  obtain ⟨h, sc, ib, wz, pv, ri, wi, si, xi, yi, im⟩ := I0
  have cr := si.2.1
  have hs := si.2.2.2.1
  have sv := pv.1
  rcases R_points sv h ri wi x1 with ⟨no, _⟩ | ⟨j, lo, hi, c, _, hj, rfl, ej, hw, hn, _⟩
  · refine ⟨_, I.ask wsc_q (K_points_no sv h hs wz cr no) (fun M1 h1 r1 w1 _ => ?_)⟩
    rcases R_points sv h1 r1 w1 x1 with ⟨_, M2, e, fo⟩ | ⟨j, lo, hi, c, _, hj, e1, ej, hw, _⟩
    · exact ⟨M2, e, NR.fo fo⟩
    · exact absurd ⟨j, lo, hi, hj, e1, ej, hw⟩ no
  · obtain ⟨M1, k1, k2, k3, k4⟩ := K_points sv h hs wz cr hj ej hw hn
    have cl : cls ptP := fun a z => by have := pt_q a z; omega
    obtain ⟨m1, _, m3, m4, _⟩ := I.mid k2.fb cl
    rcases R_points sv m1 m3 m4 (nI j) with ⟨no, _⟩ | ⟨j', lo', hi', c', M2, hj', e1, ej', hw', hn', c1, c2, c3, c4⟩
    · exact absurd ⟨j, lo, hi, hj, rfl, ej, hw⟩ no
    · have eq := nU (by omega) (by omega) e1
      subst eq
      have hc := sv.1.2 _ ((sv.2 j' hj').2.2 ej').1
      have u := isW_u hc hw hw'
      have ew : (fun p => wnP v (oS j') lo' hi' p 3) = fun p => wnP v (oS j') lo hi p 3 := funext (fun p => wnP_w u p)
      have ec := hitN_eq _ (hitN_w u _ hn') hn
      subst ec
      unfold ptV at c3
      rw [ew] at c1 c3
      have m300 : v (oS j' + 2) ≤ 300 := (((sv.2 j' hj').2.2 ej').2 0 (by omega)).2.2.1
      have := cnt_m (fun p => wnP v (oS j') lo hi p 3) (v (oS j' + 2))
      exact ⟨_, I.finds k1 k2 pt_q k3 k4 (fdN_o (by omega)) c1 (F2.fo c2) c3 c4⟩
theorem rdR_h {v : Nat → Nat} {o : Nat} {q : Nat → Nat} {wy n : Nat} : ∀ t rd, rdR v o q wy n t rd ↔ rdR v o (qh q) wy n t rd
  | 0, _ => Iff.rfl
  | t + 1, rd => by
    constructor
    · rintro ⟨rd', b, h1, h2, h3, h4⟩
      exact ⟨rd', b, (rdR_h t rd').mp h1, h2, h3, h4⟩
    · rintro ⟨rd', b, h1, h2, h3, h4⟩
      exact ⟨rd', b, (rdR_h t rd').mpr h1, h2, h3, h4⟩
theorem rdF_q {v : Nat → Nat} {o : Nat} {q q' : Nat → Nat} {wy n t : Nat} {rd : Nat → Bool} (e : ∀ x, x < 3 → q' x = q x) (h : rdF v o q' wy n t rd) : rdF v o q wy n t rd := by
  have a : rdR v o (qh q') wy n t rd := (rdR_h t rd).mp h.1
  rw [qh_u e] at a
  have b : t = v (o + 3) ∨ ∃ b d, Fst (kB v o (qh q') wy) (fun k => !rd k) (v (o + 3)) (some b) ∧ nth v o (qh q') wy (fun i => onR v o rd i (v (o + 3))) n (some d) ∧ d < bxF v o (qh q') wy b := h.2
  rw [qh_u e] at b
  exact ⟨(rdR_h t rd).mpr a, b⟩
theorem O_nearest {L : Nat} {xs : Nat → Int32} {M : q_M} (J : JV L xs M) (x1 x2 x3 x4 x5 x6 : Int32) : OKI 112 214 [.inl x1, .inl x2, .inl x3, .inl x4, .inl x5, .inl x6] L xs M := by
  obtain ⟨v, w, bt, n, f, V, W, I⟩ := J
  have I0 := I
  obtain ⟨h, sc, ib, wz, pv, ri, wi, si, xi, yi, im⟩ := I0
  have hs := si.2.2.2.1
  have sv := pv.1
  rcases R_nearest sv h ri wi x1 x2 x3 x4 x5 x6 with ⟨no, _⟩ | ⟨j, q, wy, m, t, rd, _, a, rf_, _, _⟩
  · obtain ⟨M1, k1, k2⟩ := K_near_no sv h hs no
    refine ⟨_, I.ask s39_q ⟨M1, k1, k2, WZ_s39 k2 wz⟩ (fun M1 h1 r1 w1 _ => ?_)⟩
    rcases R_nearest sv h1 r1 w1 x1 x2 x3 x4 x5 x6 with ⟨_, M2, e, fo⟩ | ⟨j, q, wy, m, t, rd, _, a, _⟩
    · exact ⟨M2, e, NR.fo fo⟩
    · exact absurd ⟨j, q, wy, m, a⟩ no
  · obtain ⟨M1, k1, k2, k3⟩ := K_near sv h hs a rf_
    have cl : cls (nrP 9 10 11) := fun a z => by have := nr9_q a z; omega
    obtain ⟨m1, _, m3, m4, _⟩ := I.mid k2.fb cl
    rcases R_nearest sv m1 m3 m4 x1 x2 x3 x4 x5 x6 with ⟨no, _⟩ | ⟨j', q', wy', m', t', rd', M2, a', rf', _, c1, c2, c3, c4⟩
    · exact absurd ⟨j, q, wy, m, a⟩ no
    · obtain ⟨e1, e2, e3, e4⟩ := askI_u sv a a'
      subst e1; subst e2; subst e3
      have r3 : rdF v (oS j') q wy' m' t' rd' := rdF_q e4 rf'
      have c5 : RI M2 (nrV v (oS j') (qh q') wy' t' (min (v (oS j' + 2)) m')) := c3
      rw [qh_u e4] at c5
      have c6 : RI M2 (nrV v (oS j') q wy' t' (min (v (oS j' + 2)) m')) := c5
      have et := (rdF_eq r3 rf_).1
      subst et
      have m300 : v (oS j' + 2) ≤ 300 := (((sv.2 j' a'.1).2.2 a'.2.2.1).2 0 (by omega)).2.2.1
      exact ⟨_, I.finds k1 k2 nr9_q (WZ.fc k2 (by unfold nrP s39 fdc; omega) wz) k3 (fdN_o (by omega)) c1 c2 c6 c4⟩
theorem O_within {L : Nat} {xs : Nat → Int32} {M : q_M} (J : JV L xs M) (x1 x2 x3 x4 x5 x6 : Int32) : OKI 113 215 [.inl x1, .inl x2, .inl x3, .inl x4, .inl x5, .inl x6] L xs M := by
  obtain ⟨v, w, bt, n, f, V, W, I⟩ := J
  have I0 := I
  obtain ⟨h, sc, ib, wz, pv, ri, wi, si, xi, yi, im⟩ := I0
  have hs := si.2.2.2.1
  have sv := pv.1
  rcases R_within sv h ri wi x1 x2 x3 x4 x5 x6 with ⟨no, _⟩ | ⟨j, q, wy, D, _, a, hD, rfl, _⟩
  · obtain ⟨M1, k1, k2⟩ := K_with_no sv h hs no
    refine ⟨_, I.ask s39_q ⟨M1, k1, k2, WZ_s39 k2 wz⟩ (fun M1 h1 r1 w1 _ => ?_)⟩
    rcases R_within sv h1 r1 w1 x1 x2 x3 x4 x5 x6 with ⟨_, M2, e, fo⟩ | ⟨j, q, wy, D, _, a, hD, e1, _⟩
    · exact ⟨M2, e, NR.fo fo⟩
    · exact absurd ⟨j, q, wy, D, a, hD, e1⟩ no
  · obtain ⟨M1, k1, k2, k3⟩ := K_with sv h hs a hD
    have cl : cls (nrP 9 10 11) := fun a z => by have := nr9_q a z; omega
    obtain ⟨m1, _, m3, m4, _⟩ := I.mid k2.fb cl
    rcases R_within sv m1 m3 m4 x1 x2 x3 x4 x5 (nI D) with ⟨no, _⟩ | ⟨j', q', wy', D', M2, a', hD', e5, c1, c2, c3, c4⟩
    · exact absurd ⟨j, q, wy, D, a, hD, rfl⟩ no
    · obtain ⟨e1, e2, _, e4⟩ := askI_u sv a a'
      subst e1; subst e2
      have eq := nU hD hD' e5
      subst eq
      have c5 : RI M2 (nrV v (oS j') (qh q') wy' (cnt (fun k => decide (bxF v (oS j') (qh q') wy' k ≤ D')) (v (oS j' + 3))) (cnt (fun i => decide (dsP v (oS j') (qh q') wy' i ≤ D')) (v (oS j' + 2)))) := c3
      rw [qh_u e4] at c5
      have c6 : q_CL 215 [.inr (.inr (some 49)), .inl x1, .inl x2, .inl x3, .inl x4, .inl x5, .inl (nI D')] M1 = some (some (.inl (nI (cnt (fun i => decide (dsP v (oS j') (qh q') wy' i ≤ D')) (v (oS j' + 2))))), M2) := c1
      rw [qh_u e4] at c6
      have m300 : v (oS j' + 2) ≤ 300 := (((sv.2 j' a'.1).2.2 a'.2.2.1).2 0 (by omega)).2.2.1
      have := cnt_m (fun i => decide (dsP v (oS j') q wy' i ≤ D')) (v (oS j' + 2))
      exact ⟨_, I.finds k1 k2 nr9_q (WZ.fc k2 (by unfold nrP s39 fdc; omega) wz) k3 (fdN_o (by omega)) c6 c2 c5 c4⟩
theorem O_pairs {L : Nat} {xs : Nat → Int32} {M : q_M} (J : JV L xs M) (x1 x2 : Int32) : OKI 114 216 [.inl x1, .inl x2] L xs M := by
  obtain ⟨v, w, bt, n, f, V, W, I⟩ := J
  have I0 := I
  obtain ⟨h, sc, ib, wz, pv, ri, wi, si, xi, yi, im⟩ := I0
  have hs := si.2.2.2.1
  have sv := pv.1
  rcases R_pairs sv h ri wi x1 x2 with ⟨no, _⟩ | ⟨j, wy, _, hj, rfl, ej, rfl, hw, _, _, y⟩
  · refine ⟨_, I.ask0 (K_pairs_no sv h hs no) (fun M1 h1 r1 w1 _ => ?_)⟩
    rcases R_pairs sv h1 r1 w1 x1 x2 with ⟨_, M2, e, fo⟩ | ⟨j, wy, _, hj, e1, ej, e2, hw, _⟩
    · exact ⟨M2, e, NR.fo fo⟩
    · exact absurd ⟨j, wy, hj, e1, ej, e2, hw⟩ no
  · obtain ⟨M1, k2, k1, k3⟩ := K_pairs sv h hs hj ej hw
    have cl : cls (fdc 9 10 11) := fun a z => by have := fd9_q a z; omega
    have wz1 := WZ.fc k2 (by unfold fdc; omega) wz
    obtain ⟨m1, _, m3, m4, _⟩ := I.mid k2.fb cl
    rcases R_pairs sv m1 m3 m4 (nI j) (nI wy) with ⟨no, _⟩ | ⟨j', wy', M2, hj', e1, ej', e2, hw', c2, c4, y2⟩
    · exact absurd ⟨j, wy, hj, rfl, ej, rfl, hw⟩ no
    · have eq := nU (by omega) (by omega) e1
      subst eq
      have eq := nU (by omega) (by omega) e2
      subst eq
      rcases y with ⟨lt, _⟩ | ⟨ge, a, b, pb, _⟩
      · rcases y2 with ⟨_, c1, c3⟩ | ⟨z, _⟩
        · obtain ⟨q1, q2⟩ := k1 lt
          exact ⟨_, I.finds q1 k2 fd9_q wz1 q2 (fun x hx => (fd0_a v _).2 x (by omega)) c1 c2 c3 c4⟩
        · omega
      · rcases y2 with ⟨z, _⟩ | ⟨_, a', b', pb', c1, c3⟩
        · omega
        · obtain ⟨q1, q2⟩ := k3 ge a b pb
          obtain ⟨ea, eb⟩ := PBs_eq pb pb'
          subst ea; subst eb
          exact ⟨_, I.finds q1 k2 fd9_q wz1 q2 (fdN_o (by omega)) c1 c2 c3 c4⟩
