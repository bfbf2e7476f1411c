/-! ===== WHAT STANDS BETWEEN TWO CALLS ===== -/
def SC (L : Nat) (xs : Nat → Int32) (M : q_M) : Prop := M.2.1 0 = L ∧ ∀ k, k < L → gI M 0 k = xs k
def PV (v : Nat → Nat) : Prop := SV v ∧ SO v ∧ (v 55 = 0 → v 56 = 0)
def IM (M : q_M) (f : Nat → Bool) (V : Nat → Nat → Nat) (W : Nat → Nat → Int32) : Prop := (∀ p, p < 2 → gI M 52 p = nI (bN (f p))) ∧ (∀ p, p < 2 → f p = false → gR M 23 p = none) ∧ (∀ p, p < 2 → f p = true → RIo M p (V p) (W p) ∧ PV (V p) ∧ ∃ b, gR M 23 p = some b ∧ SB M b ∧ SI M b (V p) (W p)) ∧ ∀ b c, gR M 23 0 = some b → gR M 23 1 = some c → b + 21 ≤ c ∨ c + 21 ≤ b
def INV (L : Nat) (xs : Nat → Int32) (M : q_M) (v : Nat → Nat) (w : Nat → Int32) (bt : Nat → Int32) (n : Nat) (f : Nat → Bool) (V : Nat → Nat → Nat) (W : Nat → Nat → Int32) : Prop := SH M ∧ SC L xs M ∧ IB M ∧ WZ M ∧ PV v ∧ RI M v ∧ WI M w ∧ SI M 2 v w ∧ XI M bt n ∧ YI M bt n ∧ IM M f V W
def JV (L : Nat) (xs : Nat → Int32) (M : q_M) : Prop := ∃ v w bt n f V W, INV L xs M v w bt n f V W
/-- cells that only the class's calls change -/
def cls (P : Nat → Prop) : Prop := ∀ a, P a → 1 ≤ a ∧ a < 49 ∧ a ≠ 23
/-- a call of the reference that leaves images and bytes -/
def FX0 (M M1 : q_M) : Prop := FC rfc M M1 ∧ (∀ k, gI M1 52 k = gI M 52 k) ∧ ∀ k, gL M1 51 k = gL M 51 k
def FX (M M1 : q_M) : Prop := FX0 M M1 ∧ gI M1 49 20 = gI M 49 20 ∧ ∀ k, gI M1 62 k = gI M 62 k
theorem FX.rf (M : q_M) : FX M M := ⟨⟨FC.rf _ M, fun _ => rfl, fun _ => rfl⟩, rfl, fun _ => rfl⟩
theorem FX0.fg {P A : Nat → Nat → Prop} {M M1 : q_M} (f : FG P A M M1) (h1 : ∀ a k, P a k → rfc a ∧ a ≠ 52) (h2 : ∀ a k, A a k → rfc a ∧ a ≠ 51) : FX0 M M1 := ⟨FC.fg f (fun a k z => (h1 a k z).1) (fun a k z => (h2 a k z).1), fun k => f.2.2.2.1 52 k (fun z => (h1 52 k z).2 rfl), fun k => f.2.2.2.2 51 k (fun z => (h2 51 k z).2 rfl)⟩
theorem sc2_c {a k : Nat} (h : sc2 a k) : rfc a ∧ a ≠ 52 ∧ a ≠ 62 ∧ ¬ (a = 49 ∧ k = 20) := by
  unfold sc2 scr at h
  unfold rfc
  omega
theorem FX.f2 {A : Nat → Prop} {M M1 : q_M} (f : F2 A M M1) (h : ∀ a, A a → a = 49 ∨ a = 50 ∨ a = 58) : FX M M1 := by
  refine ⟨FX0.fg (FG.f2 f) (fun a k z => ⟨(sc2_c z).1, (sc2_c z).2.1⟩) (fun a k z => ?_), f.2.2.2.1 49 20 (fun z => (sc2_c z).2.2.2 ⟨rfl, rfl⟩), fun k => f.2.2.2.1 62 k (fun z => (sc2_c z).2.2.1 rfl)⟩
  have := h a z
  unfold rfc
  omega
theorem FX.xi {M M1 : q_M} (f : FX M M1) {bt : Nat → Int32} {n : Nat} (x : XI M bt n) : XI M1 bt n := ⟨f.2.1.trans x.1, x.2.1, fun k hk => (f.2.2 k).trans (x.2.2 k hk)⟩
/-- nothing of the reference's state has changed -/
def NR (M M1 : q_M) : Prop := FX M M1 ∧ (∀ v, RI M v → RI M1 v) ∧ ∀ w, WI M w → WI M1 w
theorem NR.rf (M : q_M) : NR M M := ⟨FX.rf M, fun _ h => h, fun _ h => h⟩
theorem NR.f2 {A : Nat → Prop} {M M1 : q_M} (f : F2 A M M1) (h : ∀ a, A a → a = 49 ∨ a = 58) : NR M M1 := by
  have n : ¬ A 50 := fun z => by have := h 50 z; omega
  exact ⟨FX.f2 f (fun a z => by have := h a z; omega), fun _ r => f.ri n r, fun _ r => f.wi n r⟩
theorem NR.fo {M M1 : q_M} (f : FO (fun _ => False) M M1) : NR M M1 := NR.f2 (F2.fo f) (fun _ z => z.elim)
theorem NR.fm {M M1 : q_M} (f : FM M M1) : NR M M1 := NR.f2 (A := fun _ => False) (F2.fl (FL.of f)) (fun _ z => z.elim)
theorem FX.f50 {M M1 : q_M} (f : F2 f50 M M1) : FX M M1 := FX.f2 f (fun a z => Or.inr (Or.inl z))
theorem IM.fb {M M1 : q_M} {f : Nat → Bool} {V : Nat → Nat → Nat} {W : Nat → Nat → Int32} (im : IM M f V W) {P : Nat → Prop} {n s : Nat} (fk : FB P n s M M1) (g : 63 ≤ gN M) (ib : IB M) (hP : ∀ a, P a → a < 63 ∧ a ≠ 23) (h1 : ∀ k, gI M1 52 k = gI M 52 k) (h2 : ∀ k, gL M1 51 k = gL M 51 k) : IM M1 f V W := by
  obtain ⟨i1, i2, i3, i4⟩ := im
  have e23 : ∀ p, gR M1 23 p = gR M 23 p := fun p => (fk.2.2.2.2.1 23 p (by omega) (fun z => (hP 23 z).2 rfl)).2.2
  have kp : KP M M1 := fk.kp g (fun a _ z => hP a z)
  refine ⟨fun p hp => (h1 p).trans (i1 p hp), fun p hp z => (e23 p).trans (i2 p hp z), fun p hp z => ?_, fun b c hb hc => i4 b c ((e23 0).symm.trans hb) ((e23 1).symm.trans hc)⟩
  obtain ⟨ri, pv, b, b1, b2, b3⟩ := i3 p hp z
  obtain ⟨c1, c2⟩ := ib p b hp b1
  have same : ∀ x, x < 21 → ∀ j, gI M1 (b + x) j = gI M (b + x) j ∧ gL M1 (b + x) j = gL M (b + x) j ∧ gR M1 (b + x) j = gR M (b + x) j := fun x hx j => fk.2.2.2.2.1 (b + x) j (by omega) (fun z => by have := (hP _ z).1; omega)
  refine ⟨⟨fun i h3 h4 => ?_, fun j hj => ?_⟩, pv, b, (e23 p).trans b1, b2.kp (fun x hx => fk.2.2.2.1 (b + x) (by omega)) (fun x hx j => (same x hx j).2.2), b3.kp kp same⟩
  · rw [h2]; exact ri.1 i h3 h4
  · rw [h2]; exact ri.2 j hj
theorem INV.step {L : Nat} {xs : Nat → Int32} {M M1 M2 : q_M} {v u : Nat → Nat} {w w' bt bt' : Nat → Int32} {n n' : Nat} {f : Nat → Bool} {V : Nat → Nat → Nat} {W : Nat → Nat → Int32} (I : INV L xs M v w bt n f V W) {P : Nat → Prop} {nn ss : Nat} (fk : FB P nn ss M M1) (hP : cls P) (wz : WZ M1) (si : SI M1 2 u w') (yi : YI M1 bt' n') (fx : FX0 M1 M2) (pv : PV u) (ri : RI M2 u) (wi : WI M2 w') (xi : XI M2 bt' n') : INV L xs M2 u w' bt' n' f V W := by
  obtain ⟨h, sc, ib, _, _, _, _, _, _, _, im⟩ := I
  have g := h.2.2.2
  have h1 := fk.sh h
  have n0 : ¬ P 0 := fun z => by have := (hP 0 z).1; omega
  have n23 : ¬ P 23 := fun z => (hP 23 z).2.2 rfl
  have r0 : ¬ rfc 0 := fun z => by have := z.1; omega
  have r63 : ∀ a, rfc a → a < 63 ∧ a ≠ 23 := fun a z => by unfold rfc at z; omega
  have fa : FB (fun a => P a ∨ rfc a) (nn + 0) (ss + 0) M M2 := (fk.wk (fun _ _ z => Or.inl z) (Nat.le_refl _) (Nat.le_refl _)).tr fx.1.fb (fun _ _ z => Or.inr z)
  refine ⟨fx.1.sh h1, ⟨?_, fun k hk => ?_⟩, fa.ib g (fun z => by rcases z with z | z; exact n23 z; have := r63 23 z; omega) ib, WZ.fc fx.1 (by unfold rfc; omega) wz, pv, ri, wi, si.kp (fx.1.kp r63) (fun x hx j => fx.1.2.2.2.1 (2 + x) j (by unfold rfc; omega)), xi, YI.fc fx.1.fb (by have := h1.2.2.2; omega) (by unfold rfc; omega) yi, ?_⟩
  · rw [fx.1.2.1, (fk.2.2.2.1 0 (by omega)).2]; exact sc.1
  · rw [(fx.1.2.2.2.1 0 k r0).1, (fk.2.2.2.2.1 0 k (by omega) n0).1]; exact sc.2 k hk
  · refine im.fb fa g ib (fun a z => ?_) (fun k => ?_) (fun k => ?_)
    · rcases z with z | z
      · have := hP a z; omega
      · exact r63 a z
    · rw [fx.2.1, (fk.2.2.2.2.1 52 k (by omega) (fun z => by have := hP 52 z; omega)).1]
    · rw [fx.2.2, (fk.2.2.2.2.1 51 k (by omega) (fun z => by have := hP 51 z; omega)).2.1]
/-- between the class's call and the reference's -/
theorem INV.mid {L : Nat} {xs : Nat → Int32} {M M1 : q_M} {v : Nat → Nat} {w bt : Nat → Int32} {n : Nat} {f : Nat → Bool} {V : Nat → Nat → Nat} {W : Nat → Nat → Int32} (I : INV L xs M v w bt n f V W) {P : Nat → Prop} {nn ss : Nat} (fk : FB P nn ss M M1) (hP : cls P) : SH M1 ∧ SC L xs M1 ∧ RI M1 v ∧ WI M1 w ∧ XI M1 bt n ∧ (∀ p, p < 2 → gI M1 52 p = nI (bN (f p))) ∧ ∀ p, p < 2 → f p = true → RIo M1 p (V p) (W p) := by
  obtain ⟨h, sc, ib, _, _, ri, wi, _, xi, _, im⟩ := I
  have g := h.2.2.2
  have o : ∀ a k, a = 0 ∨ (49 ≤ a ∧ a < 63) → gI M1 a k = gI M a k ∧ gL M1 a k = gL M a k := fun a k ha => by
    have := fk.2.2.2.2.1 a k (by omega) (fun z => by have := hP a z; omega)
    exact ⟨this.1, this.2.1⟩
  refine ⟨fk.sh h, ⟨by rw [(fk.2.2.2.1 0 (by omega)).2]; exact sc.1, fun k hk => (o 0 k (Or.inl rfl)).1.trans (sc.2 k hk)⟩, fun i h1 h2 => ?_, fun j hj => ?_, ⟨(o 49 20 (by omega)).1.trans xi.1, xi.2.1, fun k hk => (o 62 k (by omega)).1.trans (xi.2.2 k hk)⟩, fun p hp => (o 52 p (by omega)).1.trans (im.1 p hp), fun p hp z => ?_⟩
  · rw [(o 50 i (by omega)).2]; exact ri i h1 h2
  · rw [(o 50 _ (by omega)).2]; exact wi j hj
  · obtain ⟨r, _⟩ := im.2.2.1 p hp z
    exact ⟨fun i h1 h2 => by rw [(o 51 _ (by omega)).2]; exact r.1 i h1 h2, fun j hj => by rw [(o 51 _ (by omega)).2]; exact r.2 j hj⟩
/-- a call of both, with one answer -/
def OK (k r : Nat) (as : List q_V) (L : Nat) (xs : Nat → Int32) (M : q_M) (a : q_V) : Prop := ∃ M1 M2, q_CL k (.inr (.inr (some 1)) :: as) M = some (some a, M1) ∧ SH M1 ∧ SC L xs M1 ∧ q_CL r (.inr (.inr (some 49)) :: as) M1 = some (some a, M2) ∧ JV L xs M2 ∧ gN M2 ≤ gN M + 43 ∧ gS M2 ≤ gS M + 1200
def OKI (k r : Nat) (as : List q_V) (L : Nat) (xs : Nat → Int32) (M : q_M) : Prop := ∃ a, OK k r as L xs M (.inl a)
def OKL (k r : Nat) (as : List q_V) (L : Nat) (xs : Nat → Int32) (M : q_M) : Prop := ∃ a, OK k r as L xs M (.inr (.inl a))
/-- a question: nothing of the state changes -/
theorem INV.ask {L : Nat} {xs : Nat → Int32} {M : q_M} {v : Nat → Nat} {w bt : Nat → Int32} {n : Nat} {f : Nat → Bool} {V : Nat → Nat → Nat} {W : Nat → Nat → Int32} (I : INV L xs M v w bt n f V W) {k r : Nat} {as : List q_V} {a : q_V} {P : Nat → Prop} (hP : ∀ a, P a → 25 ≤ a ∧ a < 49) (hk : ∃ M1, q_CL k (.inr (.inr (some 1)) :: as) M = some (some a, M1) ∧ FC P M M1 ∧ WZ M1) (hr : ∀ M1, SH M1 → RI M1 v → WI M1 w → XI M1 bt n → ∃ M2, q_CL r (.inr (.inr (some 49)) :: as) M1 = some (some a, M2) ∧ NR M1 M2) : OK k r as L xs M a := by
  obtain ⟨M1, k1, k2, k3⟩ := hk
  have hc : cls P := fun a z => by have := hP a z; omega
  obtain ⟨m1, m2, m3, m4, m5, m6, m7⟩ := I.mid k2.fb hc
  obtain ⟨M2, r1, r2, r3, r4⟩ := hr M1 m1 m3 m4 m5
  have g : 63 ≤ gN M := I.1.2.2.2
  refine ⟨M1, M2, k1, m1, m2, r1, ⟨v, w, bt, n, f, V, W, I.step k2.fb hc k3 (I.2.2.2.2.2.2.2.1.kp (k2.kp (fun a z => by have := hP a z; omega)) (fun x hx j => k2.2.2.2.1 (2 + x) j (fun z => by have := hP _ z; omega))) (YI.fc k2.fb g (by refine ⟨fun z => ?_, fun z => ?_⟩ <;> (have := hP _ z; omega)) I.2.2.2.2.2.2.2.2.2.1) r2.1 I.2.2.2.2.1 (r3 v m3) (r4 w m4) (r2.xi m5)⟩, ?_, ?_⟩
  · rw [r2.1.1.gn, k2.gn]; omega
  · rw [r2.1.1.gs, k2.gs]; omega
/-- the class leaves all -/
theorem INV.ask0 {L : Nat} {xs : Nat → Int32} {M : q_M} {v : Nat → Nat} {w bt : Nat → Int32} {n : Nat} {f : Nat → Bool} {V : Nat → Nat → Nat} {W : Nat → Nat → Int32} (I : INV L xs M v w bt n f V W) {k r : Nat} {as : List q_V} {a : q_V} (hk : q_CL k (.inr (.inr (some 1)) :: as) M = some (some a, M)) (hr : ∀ M1, SH M1 → RI M1 v → WI M1 w → XI M1 bt n → ∃ M2, q_CL r (.inr (.inr (some 49)) :: as) M1 = some (some a, M2) ∧ NR M1 M2) : OK k r as L xs M a := I.ask (P := fun _ => False) (fun _ z => z.elim) ⟨M, hk, FC.rf _ M, I.2.2.2.1⟩ hr
