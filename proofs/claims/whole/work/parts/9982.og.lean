/-! ===== WHAT A CALL CHANGES ===== -/
theorem CS.fb {P : Nat → Prop} {n s : Nat} {M M1 : q_M} (f : FB P n s M M1) (g : 63 ≤ gN M) (hp : ∀ a, P a → a < 63 ∧ a ≠ 23) (h2 : ¬ P 2) (h3 : ¬ P 3) {v : Nat → Nat} (c : CS M 2 v) : CS M1 2 v := by
  have kp : KP M M1 := f.kp g (fun a _ z => hp a z)
  refine ⟨(f.2.2.2.2.1 2 1 (by omega) h2).1.trans c.1, fun i hi => ?_⟩
  obtain ⟨o, o1, o2⟩ := c.2 i hi
  exact ⟨o, (f.2.2.2.2.1 3 i (by omega) h3).2.2.trans o1, o2.kp kp⟩
theorem CS.cg {M : q_M} {v u : Nat → Nat} (v8 : v 0 ≤ 8) (c : CS M 2 v) (e : ∀ x, x < 49 → u x = v x) : CS M 2 u := by
  refine ⟨by rw [e 0 (by omega)]; exact c.1, fun i hi => ?_⟩
  rw [e 0 (by omega)] at hi
  obtain ⟨o, o1, o2⟩ := c.2 i hi
  exact ⟨o, o1, o2.vu (by omega) e⟩
theorem CR.fb {P : Nat → Prop} {n s : Nat} {M M1 : q_M} (f : FB P n s M M1) (g : 63 ≤ gN M) (h : ¬ P 5) {w : Nat → Int32} (c : CR M 2 w) : CR M1 2 w := fun j hj => (f.2.2.2.2.1 5 j (by omega) h).1.trans (c j hj)
theorem TL.fb {P : Nat → Prop} {n s : Nat} {M M1 : q_M} (f : FB P n s M M1) (g : 63 ≤ gN M) (h : ¬ P 6 ∧ ¬ P 7 ∧ ¬ P 8) {v : Nat → Nat} (t : TL M 2 v) : TL M1 2 v := ⟨(f.2.2.2.2.1 6 2 (by omega) h.1).1.trans t.1, (f.2.2.2.2.1 6 3 (by omega) h.1).2.1.trans t.2.1, fun k hk => ⟨(f.2.2.2.2.1 7 k (by omega) h.2.1).2.1.trans (t.2.2 k hk).1, (f.2.2.2.2.1 8 k (by omega) h.2.2).2.1.trans (t.2.2 k hk).2⟩⟩
theorem TL.cg {M : q_M} {v u : Nat → Nat} (h5 : v 55 ≤ 200) (t : TL M 2 v) (e : ∀ x, 55 ≤ x → x < 457 → u x = v x) : TL M 2 u := by
  obtain ⟨t1, t2, t3⟩ := t
  refine ⟨by rw [e 55 (by omega) (by omega)]; exact t1, by rw [e 56 (by omega) (by omega)]; exact t2, fun k hk => ?_⟩
  rw [e 55 (by omega) (by omega)] at hk
  have := t3 k hk
  refine ⟨?_, ?_⟩
  · show gL M 7 k = lN (u (57 + 2 * k))
    rw [e (57 + 2 * k) (by omega) (by omega)]; exact this.1
  · show gL M 8 k = lN (u (57 + 2 * k + 1))
    rw [e (57 + 2 * k + 1) (by omega) (by omega)]; exact this.2
theorem HS.cg {M : q_M} {v u : Nat → Nat} (sv : SV v) (h : HS M 2 v) (e1 : ∀ x, x < 49 → u x = v x) (e2 : ∀ x, 1100 ≤ x → u x = v x) : HS M 2 u := fun k hk => (h k hk).cg sv hk e1 (fun x _ => e2 _ (by unfold oS; omega)) (e2 _ (by omega))
theorem LZ.fb {P : Nat → Prop} {n s : Nat} {M M1 : q_M} (f : FB P n s M M1) (g : 63 ≤ gN M) (h : ∀ k, k < 4 → ¬ P (15 + 2 * k)) (z : LZ M 2) : LZ M1 2 := fun j hj y => by
  have a := f.2.2.2.2.1 (2 + 13 + 2 * j) 1 (by omega) (h j hj)
  have b := f.2.2.2.2.1 (2 + 13 + 2 * j) 3 (by omega) (h j hj)
  rw [b.1]
  exact z j hj (a.2.2.symm.trans y)
theorem LZ.up {P : Nat → Prop} {n s : Nat} {M M1 : q_M} (f : FB P n s M M1) (g : 63 ≤ gN M) {j : Nat} (h : ∀ k, k < 4 → k ≠ j → ¬ P (15 + 2 * k)) (z : LZ M 2) {u : Nat → Nat} (hs : HS M1 2 u) (uj : u (oS j) = 1) : LZ M1 2 := fun k hk y => by
  by_cases c : k = j
  · subst c
    rcases hs k hk with ⟨q, _⟩ | ⟨_, _, _, r, _, _, q, _⟩
    · omega
    · rw [q] at y; cases y
  · have a := f.2.2.2.2.1 (2 + 13 + 2 * k) 1 (by omega) (h k hk c)
    have b := f.2.2.2.2.1 (2 + 13 + 2 * k) 3 (by omega) (h k hk c)
    rw [b.1]
    exact z k hk (a.2.2.symm.trans y)
theorem SO_cg {v u : Nat → Nat} (e : ∀ x, 55 ≤ x → x < 457 → u x = v x) (s : SO v) : SO u := by
  have e5 := e 55 (by omega) (by omega)
  have s1 := s.1
  refine ⟨by rw [e5]; exact s.1, fun x hx => ?_⟩
  rw [e5] at hx
  rw [e (57 + x) (by omega) (by omega), e (57 + x + 1) (by omega) (by omega)]
  exact s.2 x hx
theorem cS_cg {v u : Nat → Nat} (e : ∀ x, x < 49 → u x = v x) {i : Nat} (hi : i < 8) : cS u i = cS v i := e _ (by omega)
theorem PV_cg {v u : Nat → Nat} (p : PV v) (s : SV u) (e : ∀ x, 55 ≤ x → x < 457 → u x = v x) : PV u := ⟨s, SO_cg e p.2.1, by rw [e 55 (by omega) (by omega), e 56 (by omega) (by omega)]; exact p.2.2⟩
/-- a shelf changes -/
theorem SI.shelf {P : Nat → Prop} {n s : Nat} {M M1 : q_M} {v u : Nat → Nat} {w : Nat → Int32} (pv : PV v) (si : SI M 2 v w) (f : FB P n s M M1) (g : 63 ≤ gN M) {j : Nat} (hP : ∀ a, P a → 15 ≤ a ∧ a < 49 ∧ a ≠ 23) (hj : ∀ k, k < 4 → k ≠ j → ¬ P (15 + 2 * k)) (e : ∀ x, x < 1100 → u x = v x) (hs : HS M1 2 u) (uj : u (oS j) = 1) : SI M1 2 u w := by
  obtain ⟨cs, cr, tl, _, fn, rk, lz⟩ := si
  have no : ∀ a, a < 15 → ¬ P a := fun a ha z => by have := hP a z; omega
  have hp : ∀ a, P a → a < 63 ∧ a ≠ 23 := fun a z => by have := hP a z; omega
  have v8 := pv.1.1.1
  refine ⟨(cs.fb f g hp (no 2 (by omega)) (no 3 (by omega))).cg v8 (fun x hx => e x (by omega)), cr.fb f g (no 5 (by omega)), (tl.fb f g ⟨no 6 (by omega), no 7 (by omega), no 8 (by omega)⟩).cg pv.2.1.1 (fun x _ hx => e x (by omega)), hs, (fn.fb f g (fun a _ z => hp a z) (by omega) ⟨no _ (by omega), no _ (by omega), no _ (by omega)⟩).cg (fun x _ hx => e x (by omega)), (rk.fb f (by omega) ⟨no _ (by omega), no _ (by omega), no _ (by omega)⟩).cg (fun x _ hx => e x hx) (by rw [e 0 (by omega)]; exact Nat.le_refl _) (fun i hi => cS_cg (fun x hx => e x (by omega)) (by omega)), lz.up f g hj hs uj⟩
/-- what was found changes -/
theorem SI.find {P : Nat → Prop} {M M1 : q_M} {v u : Nat → Nat} {w : Nat → Int32} (pv : PV v) (si : SI M 2 v w) (f : FC P M M1) (g : 63 ≤ gN M) (hP : ∀ a, P a → (9 ≤ a ∧ a ≤ 11) ∨ (25 ≤ a ∧ a < 49)) (e : ∀ x, x < 457 ∨ 1060 ≤ x → u x = v x) (fn : FN M1 2 u) : SI M1 2 u w := by
  obtain ⟨cs, cr, tl, hs, _, rk, lz⟩ := si
  have no : ∀ a, (a < 9 ∨ 12 ≤ a) → a < 25 → ¬ P a := fun a h1 h2 z => by have := hP a z; omega
  have hp : ∀ a, P a → a < 63 ∧ a ≠ 23 := fun a z => by have := hP a z; omega
  have v8 := pv.1.1.1
  exact ⟨(cs.fb f.fb g hp (no 2 (by omega) (by omega)) (no 3 (by omega) (by omega))).cg v8 (fun x hx => e x (by omega)), cr.fb f.fb g (no 5 (by omega) (by omega)), (tl.fb f.fb g ⟨no 6 (by omega) (by omega), no 7 (by omega) (by omega), no 8 (by omega) (by omega)⟩).cg pv.2.1.1 (fun x _ hx => e x (by omega)), (hs.fb f.fb g (fun a _ z => hp a z) (by omega) (fun j hj => no _ (by omega) (by omega))).cg pv.1 (fun x hx => e x (by omega)) (fun x hx => e x (by omega)), fn, (rk.fb f.fb (by omega) ⟨no _ (by omega) (by omega), no _ (by omega) (by omega), no _ (by omega) (by omega)⟩).cg (fun x hx _ => e x (by omega)) (by rw [e 0 (by omega)]; exact Nat.le_refl _) (fun i hi => cS_cg (fun x hx => e x (by omega)) (by omega)), lz.fb f.fb g (fun k hk => no _ (by omega) (by omega))⟩
/-- what was told changes -/
theorem SI.tell {P : Nat → Prop} {M M1 : q_M} {v u : Nat → Nat} {w : Nat → Int32} (pv : PV v) (si : SI M 2 v w) (f : FC P M M1) (g : 63 ≤ gN M) (hP : ∀ a, P a → (6 ≤ a ∧ a ≤ 8) ∨ (25 ≤ a ∧ a < 49)) (e : ∀ x, x < 55 ∨ 457 ≤ x → u x = v x) (tl : TL M1 2 u) : SI M1 2 u w := by
  obtain ⟨cs, cr, _, hs, fn, rk, lz⟩ := si
  have no : ∀ a, (a < 6 ∨ 9 ≤ a) → a < 25 → ¬ P a := fun a h1 h2 z => by have := hP a z; omega
  have hp : ∀ a, P a → a < 63 ∧ a ≠ 23 := fun a z => by have := hP a z; omega
  have v8 := pv.1.1.1
  exact ⟨(cs.fb f.fb g hp (no 2 (by omega) (by omega)) (no 3 (by omega) (by omega))).cg v8 (fun x hx => e x (by omega)), cr.fb f.fb g (no 5 (by omega) (by omega)), tl, (hs.fb f.fb g (fun a _ z => hp a z) (by omega) (fun j hj => no _ (by omega) (by omega))).cg pv.1 (fun x hx => e x (by omega)) (fun x hx => e x (by omega)), (fn.fb f.fb g (fun a _ z => hp a z) (by omega) ⟨no _ (by omega) (by omega), no _ (by omega) (by omega), no _ (by omega) (by omega)⟩).cg (fun x hx _ => e x (by omega)), (rk.fb f.fb (by omega) ⟨no _ (by omega) (by omega), no _ (by omega) (by omega), no _ (by omega) (by omega)⟩).cg (fun x hx _ => e x (by omega)) (by rw [e 0 (by omega)]; exact Nat.le_refl _) (fun i hi => cS_cg (fun x hx => e x (by omega)) (by omega)), lz.fb f.fb g (fun k hk => no _ (by omega) (by omega))⟩
/-- the rack changes -/
theorem SI.rack {P : Nat → Prop} {M M1 : q_M} {v u : Nat → Nat} {w : Nat → Int32} (pv : PV v) (si : SI M 2 v w) (f : FC P M M1) (g : 63 ≤ gN M) (hP : ∀ a, P a → 12 ≤ a ∧ a ≤ 14) (e : ∀ x, x < 1060 ∨ 1100 ≤ x → u x = v x) (rk : RK M1 2 u) : SI M1 2 u w := by
  obtain ⟨cs, cr, tl, hs, fn, _, lz⟩ := si
  have no : ∀ a, (a < 12 ∨ 15 ≤ a) → ¬ P a := fun a h1 z => by have := hP a z; omega
  have hp : ∀ a, P a → a < 63 ∧ a ≠ 23 := fun a z => by have := hP a z; omega
  have v8 := pv.1.1.1
  exact ⟨(cs.fb f.fb g hp (no 2 (by omega)) (no 3 (by omega))).cg v8 (fun x hx => e x (by omega)), cr.fb f.fb g (no 5 (by omega)), (tl.fb f.fb g ⟨no 6 (by omega), no 7 (by omega), no 8 (by omega)⟩).cg pv.2.1.1 (fun x _ hx => e x (by omega)), (hs.fb f.fb g (fun a _ z => hp a z) (by omega) (fun j hj => no _ (by omega))).cg pv.1 (fun x hx => e x (by omega)) (fun x hx => e x (by omega)), (fn.fb f.fb g (fun a _ z => hp a z) (by omega) ⟨no _ (by omega), no _ (by omega), no _ (by omega)⟩).cg (fun x _ hx => e x (by omega)), rk, lz.fb f.fb g (fun k hk => no _ (by omega))⟩
/-- a call that changes the state -/
theorem INV.act {L : Nat} {xs : Nat → Int32} {M M1 M2 : q_M} {v u : Nat → Nat} {w w' bt bt' : Nat → Int32} {n n' : Nat} {f : Nat → Bool} {V : Nat → Nat → Nat} {W : Nat → Nat → Int32} (I : INV L xs M v w bt n f V W) {k r : Nat} {as : List q_V} {a : q_V} (hk : q_CL k (.inr (.inr (some 1)) :: as) M = some (some a, M1)) {P : Nat → Prop} {nn ss : Nat} (fk : FB P nn ss M M1) (hP : cls P) (hn : nn ≤ 43) (hs : ss ≤ 1200) (wz : WZ M1) (si : SI M1 2 u w') (yi : YI M1 bt' n') (hr : q_CL r (.inr (.inr (some 49)) :: as) M1 = some (some a, M2)) (fx : FX0 M1 M2) (pv : PV u) (ri : RI M2 u) (wi : WI M2 w') (xi : XI M2 bt' n') : OK k r as L xs M a := by
  obtain ⟨m1, m2, _⟩ := I.mid fk hP
  refine ⟨M1, M2, hk, m1, m2, hr, ⟨u, w', bt', n', f, V, W, I.step fk hP wz si yi fx pv ri wi xi⟩, ?_, ?_⟩
  · rw [fx.1.gn]; have := fk.2.1; omega
  · rw [fx.1.gs]; have := fk.2.2.1; omega
theorem YI.cl {P : Nat → Prop} {n s : Nat} {M M1 : q_M} (f : FB P n s M M1) (g : 63 ≤ gN M) (h : ∀ a, P a → a ≠ 1 ∧ a ≠ 24) {bt : Nat → Int32} {N : Nat} (y : YI M bt N) : YI M1 bt N := YI.fc f g ⟨fun z => (h 1 z).1 rfl, fun z => (h 24 z).2 rfl⟩ y
/-! what is found leaves the rack -/
theorem fdN_r {o : Nat} {e d v : Nat → Nat} (h0 : v 457 = 0) : ∀ n, n ≤ 300 → ∀ x, 1060 ≤ x → fdN o e d v n x = v x
  | 0, _, _, _ => rfl
  | n + 1, hn, x, hx => by
    have h7 := (fdN_a (o := o) (e := e) (d := d) h0 n (by omega)).1
    show fdS (fdN o e d v n) o (e n) (d n) x = v x
    unfold fdS
    rw [h7, va_up_ne _ _ (by omega), va_up_ne _ _ (by omega), va_up_ne _ _ (by omega), va_up_ne _ _ (by omega)]
    exact fdN_r h0 n (by omega) x hx
theorem fd0_a (v : Nat → Nat) (rd : Nat) : fd0 v rd 457 = 0 ∧ ∀ x, x < 457 ∨ 460 ≤ x → fd0 v rd x = v x := by
  unfold fd0
  refine ⟨?_, fun x hx => ?_⟩
  · rw [va_up_ne _ _ (by omega), va_up_ne _ _ (by omega), va_up_self]
  · rw [va_up_ne _ _ (by omega), va_up_ne _ _ (by omega), va_up_ne _ _ (by omega)]
theorem fdN_o {o : Nat} {e d v : Nat → Nat} {rd n : Nat} (hn : n ≤ 300) : ∀ x, x < 457 ∨ 1060 ≤ x → fdN o e d (fd0 v rd) n x = v x := fun x hx => by
  obtain ⟨a, b⟩ := fd0_a v rd
  rcases hx with hx | hx
  · rw [(fdN_a (o := o) (e := e) (d := d) a n hn).2 x (Or.inl hx), b x (Or.inl hx)]
  · rw [fdN_r (o := o) (e := e) (d := d) a n hn x hx, b x (Or.inr (by omega))]
/-! places by their three numbers -/
def qh (q : Nat → Nat) (a : Nat) : Nat := if a = 0 then q 0 else if a = 1 then q 1 else q 2
theorem qh_u {q q' : Nat → Nat} (h : ∀ x, x < 3 → q' x = q x) : qh q' = qh q := by
  funext a
  unfold qh
  rw [h 0 (by omega), h 1 (by omega), h 2 (by omega)]
theorem O_check {L : Nat} {xs : Nat → Int32} {M : q_M} (J : JV L xs M) (x1 x2 x3 x4 x5 x6 : Int32) : OKI 129 227 [.inl x1, .inl x2, .inl x3, .inl x4, .inl x5, .inl x6] L xs M := by
  obtain ⟨v, w, bt, n, f, V, W, I⟩ := J
  have I0 := I
  obtain ⟨h, sc, ib, wz, pv, ri, wi, ⟨cs, cr, tl, hs, fn, rk, lz⟩, xi, yi, im⟩ := I0
  have sv := pv.1
  rcases R_check sv h ri xi x1 x2 x3 x4 x5 x6 with ⟨no, _⟩ | ⟨j, q, wy, m, x, _, a, eN, ck, _⟩
  · obtain ⟨M1, k1, k2⟩ := K_check_no sv h hs yi no
    refine ⟨_, I.ask s39_q ⟨M1, k1, k2, WZ_s39 k2 wz⟩ (fun M1 h1 r1 _ x => ?_)⟩
    rcases R_check sv h1 r1 x x1 x2 x3 x4 x5 x6 with ⟨_, M2, e, fo⟩ | ⟨j, q, wy, m, x, _, a, eN, _⟩
    · exact ⟨M2, e, NR.fo fo⟩
    · exact absurd ⟨j, q, wy, m, a, eN⟩ no
  · obtain ⟨M1, k1, k2⟩ := K_check sv h hs yi a eN ck
    refine ⟨_, I.ask nr45_q ⟨M1, k1, k2, WZ.fc k2 (by unfold nrP s39 fdc; omega) wz⟩ (fun M1 h1 r1 _ xi1 => ?_)⟩
    rcases R_check sv h1 r1 xi1 x1 x2 x3 x4 x5 x6 with ⟨no, _⟩ | ⟨j', q', wy', m', x', M2, a', eN', ck', e, f2⟩
    · exact absurd ⟨j, q, wy, m, a, eN⟩ no
    · obtain ⟨e1, e2, e3, e4⟩ := askI_u sv a a'
      subst e1; subst e2; subst e3
      have c2 : ckA v (oS j') (qh q') wy' m' bt x' := ck'
      rw [qh_u e4] at c2
      have c3 : ckA v (oS j') q wy' m' bt x' := c2
      have sw := (((sv.2 j' a'.1).2.2 a'.2.2.1).2 0 (by omega)).2.2
      have := ckA_eq sw ck c3
      subst this
      exact ⟨M2, e, NR.f2 f2 (fun _ z => z.elim)⟩
theorem O_ask {L : Nat} {xs : Nat → Int32} {M : q_M} (J : JV L xs M) (x1 x2 : Int32) : OKL 134 229 [.inl x1, .inl x2] L xs M := by
  obtain ⟨v, w, bt, n, f, V, W, I⟩ := J
  have I0 := I
  obtain ⟨h, sc, ib, wz, pv, ri, wi, ⟨cs, cr, tl, hs, fn, rk, lz⟩, xi, yi, im⟩ := I0
  have wc := pv.1.1
  have hk : ∀ k, k < 8 → v (1060 + 4 * k) = 3 → v (1060 + 4 * k + 1) < v 0 := fun k hk => (rk k hk).2.1
  rcases R_askR wc hk h ri x1 x2 with ⟨no, _⟩ | ⟨k, t, k8, rfl, ht, rfl, _⟩
  · refine ⟨_, I.ask0 (K_ask_no no) (fun M1 h1 r1 _ _ => ?_)⟩
    rcases R_askR wc hk h1 r1 x1 x2 with ⟨_, e⟩ | ⟨k, t, k8, e1, ht, e2, _⟩
    · exact ⟨M1, e, NR.rf M1⟩
    · exact absurd ⟨k, t, k8, e1, ht, e2⟩ no
  · refine ⟨_, I.ask0 (K_ask h rk k8 ht) (fun M1 h1 r1 _ _ => ?_)⟩
    rcases R_askR wc hk h1 r1 (nI k) (nI t) with ⟨no, _⟩ | ⟨k', t', k8', e1, ht', e2, e⟩
    · exact absurd ⟨k, t, k8, rfl, ht, rfl⟩ no
    · have eq := nU (by omega) (by omega) e1
      subst eq
      have eq := nU (by omega) (by omega) e2
      subst eq
      exact ⟨M1, e, NR.rf M1⟩
