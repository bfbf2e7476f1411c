/-! ===== CURVES, WITNESSES, THE RACK, IMAGES ===== -/
theorem O_witness {L : Nat} {xs : Nat → Int32} {M : q_M} (J : JV L xs M) (x1 x2 x3 x4 x5 x6 : Int32) : OKI 126 224 [.inl x1, .inl x2, .inl x3, .inl x4, .inl x5, .inl x6] L xs M := by
  obtain ⟨v, w, bt, n, f, V, W, I⟩ := J
  have I0 := I
  obtain ⟨h, sc, ib, wz, pv, ri, wi, si, xi, yi, im⟩ := I0
  have hs := si.2.2.2.1
  have sv := pv.1
  have g := h.2.2.2
  rcases R_witness sv h ri x1 x2 x3 x4 x5 x6 with ⟨no, _⟩ | ⟨j, q, wy, m, t, rd, _, a, rf_, _⟩
  · obtain ⟨M1, k1, k2⟩ := K_wit_no sv h hs no
    refine ⟨_, I.ask s39_q ⟨M1, k1, k2, WZ_s39 k2 wz⟩ (fun M1 h1 r1 w1 _ => ?_)⟩
    rcases R_witness sv h1 r1 x1 x2 x3 x4 x5 x6 with ⟨_, M2, e, fo⟩ | ⟨j, q, wy, m, t, rd, _, a, _⟩
    · exact ⟨M2, e, NR.fo fo⟩
    · exact absurd ⟨j, q, wy, m, a⟩ no
  · obtain ⟨M1, k1, k2, k3⟩ := K_wit sv h hs a rf_
    have key : ∀ a, wtP a → a = 1 ∨ (24 ≤ a ∧ a < 49) := fun a z => by unfold wtP nrP s39 fdc oP at z; omega
    have cl : cls wtP := fun a z => by have := key a z; omega
    obtain ⟨m1, _, m3, m4, _⟩ := I.mid k2.fb cl
    rcases R_witness sv m1 m3 x1 x2 x3 x4 x5 x6 with ⟨no, _⟩ | ⟨j', q', wy', m', t', rd', M2, a', rf', c1, c2, c3⟩
    · exact absurd ⟨j, q, wy, m, a⟩ no
    · obtain ⟨e1, e2, e3, e4⟩ := askI_u sv a a'
      subst e1; subst e2; subst e3
      obtain ⟨et, er⟩ := rdF_eq (rdF_q e4 rf') rf_
      subst et; subst er
      have c4 : XI M2 (wtB rd' (bxF v (oS j') (qh q') wy')) (9 * v (oS j' + 3)) := c3
      rw [qh_u e4] at c4
      have fx : FX0 M1 M2 := FX0.fg c2 (fun a k z => by
        unfold sc3 at z
        rcases z with z | z | z
        · exact ⟨(sc2_c z).1, (sc2_c z).2.1⟩
        · unfold rfc; omega
        · unfold rfc; omega) (fun a k z => z.elim)
      exact ⟨_, I.act k1 k2.fb cl (by omega) (by omega) (WZ.fc k2 (by refine ⟨fun z => ?_, fun z => ?_⟩ <;> (unfold wtP nrP s39 fdc oP at z; omega)) wz) (si.kp (k2.kp (fun a z => by have := cl a z; omega)) (fun x hx j => k2.2.2.2.1 (2 + x) j (fun z => by have := key _ z; omega))) k3 c1 fx pv (c2.ri m3) (c2.wi m4) c4⟩
theorem O_forge {L : Nat} {xs : Nat → Int32} {M : q_M} (J : JV L xs M) (x1 x2 : Int32) : OKI 128 226 [.inl x1, .inl x2] L xs M := by
  obtain ⟨v, w, bt, n, f, V, W, I⟩ := J
  have I0 := I
  obtain ⟨h, sc, ib, wz, pv, ri, wi, si, xi, yi, im⟩ := I0
  have g := h.2.2.2
  have n27 := yi.2.1
  rcases R_forge h xi x1 x2 with ⟨no, _⟩ | ⟨i, _, hi, rfl, _⟩
  · refine ⟨_, I.ask0 (K_forge_no h yi no) (fun M1 h1 r1 _ x => ?_)⟩
    rcases R_forge h1 x x1 x2 with ⟨_, e⟩ | ⟨i, _, hi, e1, _⟩
    · exact ⟨M1, e, NR.rf M1⟩
    · exact absurd ⟨i, hi, e1⟩ no
  · obtain ⟨M1, k1, k2, k3⟩ := K_forge h yi hi (x2 := x2)
    have cl : cls oP := fun a z => by unfold oP at z; omega
    obtain ⟨m1, _, m3, m4, m5, _⟩ := I.mid k2.fb cl
    rcases R_forge m1 m5 (nI i) x2 with ⟨no, _⟩ | ⟨i', M2, hi', e1, c1, c2, c3⟩
    · exact absurd ⟨i, hi, rfl⟩ no
    · have eq := nU (by omega) (by omega) e1
      subst eq
      have fx : FX0 M1 M2 := FX0.fg c2 (fun a k z => by have z : a = 62 := z; unfold rfc; omega) (fun a k z => z.elim)
      have lg : ∀ a k, gL M2 a k = gL M1 a k := fun a k => c2.2.2.2.2 a k (fun z => z)
      exact ⟨_, I.act k1 k2.fb cl (by omega) (by omega) (WZ.fc k2 (by unfold oP; omega) wz) (si.kp (k2.kp (fun a z => by have := cl a z; omega)) (fun x hx j => k2.2.2.2.1 (2 + x) j (by unfold oP; omega))) k3 c1 fx pv (fun i h1 h2 => by rw [lg]; exact m3 i h1 h2) (fun j hj => by rw [lg]; exact m4 j hj) c3⟩
theorem ly_u {v : Nat → Nat} (sv : SV v) {x3 x4 : Int32} {t a b a' b' : Nat} (h : lyC v x3 x4 t a b) (k : lyC v x3 x4 t a' b') : a' = a ∧ b' = b := by
  have v8 := sv.1.1
  rcases h with ⟨h1, h2, h3⟩ | ⟨h1, h2, h3, h4⟩ | ⟨h1, j, p, hj, h2, h3, h4, h5, h6⟩ | ⟨h1, j, n, hj, h2, h3, h4, h5, h6, h7⟩
  · rcases k with ⟨k1, k2, k3⟩ | ⟨k1, _⟩ | ⟨k1, _⟩ | ⟨k1, _⟩ <;> omega
  · rcases k with ⟨k1, _⟩ | ⟨k1, k2, k3, k4⟩ | ⟨k1, _⟩ | ⟨k1, _⟩
    · omega
    · exact ⟨nU (by omega) (by omega) (h3.symm.trans k3), by omega⟩
    · omega
    · omega
  · rcases k with ⟨k1, _⟩ | ⟨k1, _⟩ | ⟨k1, j', p', hj', k2, k3, k4, k5, k6⟩ | ⟨k1, _⟩
    · omega
    · omega
    · have e := nU (by omega) (by omega) (h2.symm.trans k2)
      subst e
      have e := nm_u h4 k4
      subst e
      omega
    · omega
  · rcases k with ⟨k1, _⟩ | ⟨k1, _⟩ | ⟨k1, _⟩ | ⟨k1, j', n', hj', k2, k3, k4, k5, k6, k7⟩
    · omega
    · omega
    · omega
    · have e := nU (by omega) (by omega) (h2.symm.trans k2)
      subst e
      have sw := (((sv.2 j' hj').2.2 h3).2 0 (by omega)).2.2
      have m300 : v (oS j' + 2) ≤ 300 := sw.1
      have p300 : v (oS j' + 3) ≤ v (oS j' + 2) := sw.2.1
      have e := nU (by omega) (by omega) (h4.symm.trans k4)
      subst e
      omega
theorem O_lay {L : Nat} {xs : Nat → Int32} {M : q_M} (J : JV L xs M) (x1 x2 x3 x4 : Int32) : OKI 133 228 [.inl x1, .inl x2, .inl x3, .inl x4] L xs M := by
  obtain ⟨v, w, bt, n, f, V, W, I⟩ := J
  have I0 := I
  obtain ⟨h, sc, ib, wz, pv, ri, wi, si, xi, yi, im⟩ := I0
  have cs := si.1
  have hs := si.2.2.2.1
  have rk := si.2.2.2.2.2.1
  have sv := pv.1
  have g := h.2.2.2
  rcases R_lay sv h ri wi x1 x2 x3 x4 with ⟨no, _⟩ | ⟨k, t, a, b, _, hk, rfl, ht, rfl, ly, _⟩
  · refine ⟨_, I.ask0 (K_lay_no sv h cs hs no) (fun M1 h1 r1 w1 _ => ?_)⟩
    rcases R_lay sv h1 r1 w1 x1 x2 x3 x4 with ⟨_, M2, e, fo⟩ | ⟨k, t, a, b, _, hk, e1, ht, e2, ly, _⟩
    · exact ⟨M2, e, NR.fo fo⟩
    · exact absurd ⟨k, t, a, b, hk, e1, ht, e2, ly⟩ no
  · obtain ⟨M1, k1, k2, k3⟩ := K_lay sv h cs hs rk hk ht ly
    have cl : cls rkP := fun a z => by unfold rkP at z; omega
    obtain ⟨m1, _, m3, m4, m5, _⟩ := I.mid k2.fb cl
    rcases R_lay sv m1 m3 m4 (nI k) (nI t) x3 x4 with ⟨no, _⟩ | ⟨k', t', a', b', M2, hk', e1, ht', e2, ly', c1, c2, c3, c4⟩
    · exact absurd ⟨k, t, a, b, hk, rfl, ht, rfl, ly⟩ no
    · have eq := nU (by omega) (by omega) e1
      subst eq
      have eq := nU (by omega) (by omega) e2
      subst eq
      obtain ⟨ea, eb⟩ := ly_u sv ly ly'
      subst ea; subst eb
      have fx := FX.f50 (F2.fo c2)
      have eo : ∀ x, x < 1060 ∨ 1100 ≤ x → lyV v k' t' a' b' x = v x := fun x hx => (lyV_a ht hk).2.2.2 x (by omega)
      exact ⟨_, I.act k1 k2.fb cl (by omega) (by omega) (WZ.fc k2 (by unfold rkP; omega) wz) (si.rack pv k2 g (fun a z => by unfold rkP at z; omega) eo k3) (YI.cl k2.fb g (fun a z => by unfold rkP at z; omega) yi) c1 fx.1 (PV_cg pv (SV_hi (fun x hx => eo x (by omega)) sv) (fun x _ hx => eo x (by omega))) c3 c4 (fx.xi m5)⟩
/-- a curve more: the shelves stay -/
theorem SHj.cr {M : q_M} {v : Nat → Nat} {K d : Nat} {L : Nat → Nat} (sv : SV v) (h8 : v 0 < 8) {j : Nat} (hj : j < 4) (s : SHj M 2 v j) : SHj M 2 (crV v K d L) j := by
  obtain ⟨u1, u2, u3, u4, u5, u6⟩ := crV_a v K d L
  have hi : ∀ x, 55 ≤ x → crV v K d L x = v x := fun x hx => u6 x (by omega) (Or.inr (by omega))
  have o1 := oS_ge j
  obtain ⟨s1, s2, s3⟩ := sv.2 j hj
  rcases s with ⟨z0, z1⟩ | ⟨z0, z1, c, r, z2, z3, z4, z5, z6⟩
  · exact Or.inl ⟨by rw [hi _ (by omega)]; exact z0, z1⟩
  · have i0 := (s3 z0).1
    have sw := (s3 z0).2
    have b : ∀ m, m ≤ v (60180 + j) → v (oS j + 2110 * m + 2) ≤ 300 ∧ v (oS j + 2110 * m + 3) ≤ 300 := fun m hm => by
      have := (sw m hm).2.2
      exact ⟨this.1, Nat.le_trans this.2.1 this.1⟩
    have e1 : crV v K d L (oS j + 1) = v (oS j + 1) := hi _ (by omega)
    have e6 : crV v K d L (60180 + j) = v (60180 + j) := hi _ (by omega)
    refine Or.inr ⟨by rw [hi _ (by omega)]; exact z0, by rw [e6]; exact z1, c, r, z2, ?_, z4, z5.cg (b 0 (by omega)).1 (b 0 (by omega)).2 (fun x _ => hi _ (by omega)), fun m m1 m2 => ?_⟩
    · rw [e1]
      have f1 : cK (crV v K d L) (v (oS j + 1)) = cK v (v (oS j + 1)) := u6 _ (by omega) (Or.inl (by omega))
      have f2 : cD (crV v K d L) (v (oS j + 1)) = cD v (v (oS j + 1)) := u6 _ (by omega) (Or.inl (by omega))
      rw [f1, f2]
      exact CO.cg z3 (fun x hx => u6 _ (by omega) (Or.inl (by omega)))
    · rw [e6] at m2 ⊢
      obtain ⟨rn, y1, y2⟩ := z6 m m1 m2
      exact ⟨rn, y1, y2.cg (b m m2).1 (b m m2).2 (fun x _ => hi _ (by omega))⟩
theorem O_curve {L : Nat} {xs : Nat → Int32} {M : q_M} (J : JV L xs M) (rn : gN M + 200 ≤ 600000) (rs : gS M + 300000 ≤ 7302250) (x1 x2 x3 x4 x5 : Int32) : OKI 81 147 [.inl x1, .inl x2, .inl x3, .inl x4, .inl x5] L xs M := by
  obtain ⟨v, w, bt, n, f, V, W, I⟩ := J
  have I0 := I
  obtain ⟨h, sc, ib, wz, pv, ri, wi, ⟨cs, cr, tl, hs, fn, rk, lz⟩, xi, yi, im⟩ := I0
  have sv := pv.1
  have wc := sv.1
  have g := h.2.2.2
  rcases R_curve wc h ri wi x1 x2 x3 x4 x5 with ⟨no, _⟩ | ⟨K, d, a, b, c, _, h8, rfl, rfl, rfl, rfl, rfl, hg, _⟩
  · refine ⟨_, I.ask0 (K_curve_no wc h cs no) (fun M1 h1 r1 w1 _ => ?_)⟩
    rcases R_curve wc h1 r1 w1 x1 x2 x3 x4 x5 with ⟨_, e⟩ | ⟨K, d, a, b, c, _, h8, e1, e2, e3, e4, e5, hg, _⟩
    · exact ⟨M1, e, NR.rf M1⟩
    · exact absurd ⟨h8, K, d, a, b, c, e1, e2, e3, e4, e5, hg⟩ no
  · obtain ⟨M1, k1, k2, k3⟩ := K_curve wc h ib cs h8 hg (by omega) (by omega)
    have cl : cls (fun a => a = 2 ∨ a = 3) := fun a z => by have z : a = 2 ∨ a = 3 := z; omega
    obtain ⟨m1, _, m3, m4, m5, _⟩ := I.mid k2 cl
    rcases R_curve wc m1 m3 m4 (nI K) (nI d) (nI a) (nI b) (nI c) with ⟨no, _⟩ | ⟨K', d', a', b', c', M2, _, e1, e2, e3, e4, e5, hg', c1, c2, c3, c4⟩
    · exact absurd ⟨h8, K, d, a, b, c, rfl, rfl, rfl, rfl, rfl, hg⟩ no
    · have q1 := crG_20 hg
      have q2 := crG_20 hg'
      have eq := nU (by omega) (by omega) e1
      subst eq
      have eq := nU (by omega) (by omega) e2
      subst eq
      have eq := nU (by omega) (by omega) e3
      subst eq
      have eq := nU (by omega) (by omega) e4
      subst eq
      have eq := nU (by omega) (by omega) e5
      subst eq
      have fx := FX.f50 (F2.fl c2)
      obtain ⟨u1, u2, u3, u4, u5, u6⟩ := crV_a v K' d' (crL K' d' a' b' c')
      have hi : ∀ x, 55 ≤ x → crV v K' d' (crL K' d' a' b' c') x = v x := fun x hx => u6 x (by omega) (Or.inr (by omega))
      have no : ∀ a, 4 ≤ a → ¬ (a = 2 ∨ a = 3) := fun a ha z => by omega
      have hp : ∀ a, (a = 2 ∨ a = 3) → a < 63 ∧ a ≠ 23 := fun a z => by omega
      have hs1 : HS M1 2 v := hs.fb k2 g (fun a _ z => hp a z) (by omega) (fun j hj => no _ (by omega))
      have si2 : SI M1 2 (crV v K' d' (crL K' d' a' b' c')) w := ⟨k3, cr.fb k2 g (no 5 (by omega)), (tl.fb k2 g ⟨no 6 (by omega), no 7 (by omega), no 8 (by omega)⟩).cg pv.2.1.1 (fun x hx _ => hi x hx), fun j hj => (hs1 j hj).cr sv h8 hj, (fn.fb k2 g (fun a _ z => hp a z) (by omega) ⟨no _ (by omega), no _ (by omega), no _ (by omega)⟩).cg (fun x hx _ => hi x (by omega)), (rk.fb k2 (by omega) ⟨no _ (by omega), no _ (by omega), no _ (by omega)⟩).cg (fun x hx _ => hi x (by omega)) (by rw [u5]; omega) (fun i hi => u6 _ (by omega) (Or.inl (by omega))), lz.fb k2 g (fun k hk => no _ (by omega))⟩
      have wz1 : WZ M1 := ⟨(k2.2.2.2.2.1 34 0 (by omega) (no _ (by omega))).1.trans wz.1, (k2.2.2.2.2.1 35 0 (by omega) (no _ (by omega))).2.1.trans wz.2⟩
      exact ⟨_, I.act k1 k2 cl (by omega) (by omega) wz1 si2 (YI.cl k2 g (fun a z => by have z : a = 2 ∨ a = 3 := z; omega) yi) c1 fx.1 (PV_cg pv (SV_cr sv h8 (crG_ok hg)) (fun x hx _ => hi x hx)) c3 c4 (fx.xi m5)⟩
theorem O_back {L : Nat} {xs : Nat → Int32} {M : q_M} (J : JV L xs M) (x : Int32) : OKI 139 231 [.inl x] L xs M := by
  obtain ⟨v, w, bt, n, f, V, W, I⟩ := J
  have I0 := I
  obtain ⟨h, sc, ib, wz, pv, ri, wi, si, xi, yi, im⟩ := I0
  have g := h.2.2.2
  rcases R_back h im.1 (fun p hp z => (im.2.2.1 p hp z).1) x with ⟨no, _⟩ | ⟨p, _, hp, rfl, fp, _⟩
  · have no2 : ¬ ∃ p, p < 2 ∧ x = nI p ∧ gR M 23 p ≠ none := by
      rintro ⟨p, hp, e, z⟩
      apply no
      refine ⟨p, hp, e, ?_⟩
      cases q : f p with
      | true => rfl
      | false => exact absurd (im.2.1 p hp q) z
    have fk : FB (fun _ => False) 0 0 M M := FB.rf _ M
    have cl : cls (fun _ => False) := fun a z => z.elim
    obtain ⟨m1, m2, m3, m4, m5, m6, m7⟩ := I.mid fk cl
    rcases R_back m1 m6 m7 x with ⟨_, e⟩ | ⟨p, _, hp, e1, fp, _⟩
    · exact ⟨_, I.act (K_back_no h no2) fk cl (by omega) (by omega) wz si yi e (FX.rf M).1 pv ri wi xi⟩
    · exact absurd ⟨p, hp, e1, fp⟩ no
  · obtain ⟨rio, pvp, b, b1, b2, b3⟩ := im.2.2.1 p hp fp
    obtain ⟨M1, k1, k2, k3⟩ := K_back h ib pvp.1 pvp.2.1.1 hp b1 b2 b3
    have key : ∀ a, stR_ 2 a → 2 ≤ a ∧ a < 23 := fun a z => by unfold stR_ at z; omega
    have cl : cls (stR_ 2) := fun a z => by have := key a z; omega
    obtain ⟨m1, _, m3, m4, m5, m6, m7⟩ := I.mid k2.fb cl
    rcases R_back m1 m6 m7 (nI p) with ⟨no, _⟩ | ⟨p', M2, hp', e1, fp', c1, c2, c3, c4⟩
    · exact absurd ⟨p, hp, rfl, fp⟩ no
    · have eq := nU (by omega) (by omega) e1
      subst eq
      have fx : FX0 M1 M2 := FX0.fg c2 (fun a k z => z.elim) (fun a k z => by have z : a = 50 := z; unfold rfc; omega)
      have gi : ∀ a k, gI M2 a k = gI M1 a k := fun a k => c2.2.2.2.1 a k (fun z => z)
      exact ⟨_, I.act k1 k2.fb cl (by omega) (by omega) (WZ.fc k2 (by refine ⟨fun z => ?_, fun z => ?_⟩ <;> (have := key _ z; omega)) wz) k3 (YI.cl k2.fb g (fun a z => by have := key a z; omega) yi) c1 fx pvp c3 c4 ⟨(gi 49 20).trans m5.1, m5.2.1, fun k hk => (gi 62 k).trans (m5.2.2 k hk)⟩⟩
theorem O_imP {L : Nat} {xs : Nat → Int32} {M M1 M2 : q_M} {v : Nat → Nat} {w bt : Nat → Int32} {n : Nat} {f : Nat → Bool} {V : Nat → Nat → Nat} {W : Nat → Nat → Int32} (I : INV L xs M v w bt n f V W) {p b : Nat} (hp : p < 2) (hb : 63 ≤ b) (ap : ∀ c, gR M 23 (1 - p) = some c → b + 21 ≤ c ∨ c + 21 ≤ b) (h1 : SH M1) (ib1 : IB M1) (e : gR M1 23 p = some b) (sb : SB M1 b) (sib : SI M1 b v w) (si2 : SI M1 2 v w) (fi : FI p b M M1) (c2 : FG (fun a k => a = 52 ∧ k = p) (fun a k => a = 51 ∧ 60190 * p ≤ k ∧ k < 60190 * p + 60190) M1 M2) (c3 : RIo M2 p v w) (c4 : gI M2 52 p = nI 1) : SH M1 ∧ SC L xs M1 ∧ JV L xs M2 ∧ gN M2 ≤ gN M + 43 ∧ gS M2 ≤ gS M + 1200 := by
  obtain ⟨h, sc, ib, wz, pv, ri, wi, si, xi, yi, im⟩ := I
  obtain ⟨i1, i2, i3, i4, i5, i6⟩ := fi
  have g := h.2.2.2
  have lo : ∀ a k, a < 63 → a ≠ 23 → gI M1 a k = gI M a k ∧ gL M1 a k = gL M a k ∧ gR M1 a k = gR M a k := fun a k ha na => by
    have := (i6 a (by omega)).2.2 (by omega) k
    exact ⟨this.1, this.2.1, this.2.2 na⟩
  have f2 : FC rfc M1 M2 := FC.fg c2 (fun a k z => by unfold rfc; omega) (fun a k z => by unfold rfc; omega)
  have sc1 : SC L xs M1 := ⟨(i6 0 (by omega)).2.1.trans sc.1, fun k hk => (lo 0 k (by omega) (by omega)).1.trans (sc.2 k hk)⟩
  have r63 : ∀ a, rfc a → a < 63 ∧ a ≠ 23 := fun a z => by unfold rfc at z; omega
  have kp2 : KP M1 M2 := f2.kp r63
  have lo2 : ∀ a k, ¬ rfc a → gI M2 a k = gI M1 a k ∧ gL M2 a k = gL M1 a k ∧ gR M2 a k = gR M1 a k := fun a k z => f2.2.2.2.1 a k z
  have n52 : ∀ k, k ≠ p → gI M2 52 k = gI M 52 k := fun k hk => (c2.2.2.2.1 52 k (fun z => hk z.2)).trans (lo 52 k (by omega) (by omega)).1
  have n51 : ∀ k, ¬ (60190 * p ≤ k ∧ k < 60190 * p + 60190) → gL M2 51 k = gL M 51 k := fun k hk => (c2.2.2.2.2 51 k (fun z => hk z.2)).trans (lo 51 k (by omega) (by omega)).2.1
  have n50 : ∀ k, gL M2 50 k = gL M 50 k := fun k => (c2.2.2.2.2 50 k (fun z => by omega)).trans (lo 50 k (by omega) (by omega)).2.1
  have gi : ∀ a k, a ≠ 52 → gI M2 a k = gI M1 a k := fun a k ha => c2.2.2.2.1 a k (fun z => ha z.1)
  have e23 : ∀ q, gR M2 23 q = gR M1 23 q := fun q => (lo2 23 q (by unfold rfc; omega)).2.2
  have sb2 : ∀ c, 63 ≤ c → SB M1 c → SB M2 c := fun c hc s => f2.so (fun x hx z => by have := r63 _ z; omega) s
  have si3 : ∀ c v w, (c = 2 ∨ 63 ≤ c) → SI M1 c v w → SI M2 c v w := fun c v w hc s => s.kp kp2 (fun x hx j => lo2 (c + x) j (by unfold rfc; omega))
  have hq : 1 - p < 2 ∧ 1 - p ≠ p := by omega
  have oth : ∀ q, q < 2 → q ≠ p → q = 1 - p := fun q h1 h2 => by omega
  refine ⟨h1, sc1, ⟨v, w, bt, n, fun q => if q = p then true else f q, fun q => if q = p then v else V q, fun q => if q = p then w else W q, f2.sh h1, ⟨by rw [f2.2.1]; exact sc1.1, fun k hk => (lo2 0 k (by unfold rfc; omega)).1.trans (sc1.2 k hk)⟩, ?_, ?_, pv, ?_, ?_, si3 2 v w (Or.inl rfl) si2, ?_, ?_, ?_, ?_, ?_, ?_⟩, ?_, ?_⟩
  · intro q c hq hc
    rw [e23] at hc
    rw [f2.gn]
    exact ib1 q c hq hc
  · exact WZ.fc f2 (by unfold rfc; omega) ⟨(lo 34 0 (by omega) (by omega)).1.trans wz.1, (lo 35 0 (by omega) (by omega)).2.1.trans wz.2⟩
  · intro i h1 h2
    rw [n50]; exact ri i h1 h2
  · intro j hj
    rw [n50]; exact wi j hj
  · exact ⟨(gi 49 20 (by omega)).trans ((lo 49 20 (by omega) (by omega)).1.trans xi.1), xi.2.1, fun k hk => (gi 62 k (by omega)).trans ((lo 62 k (by omega) (by omega)).1.trans (xi.2.2 k hk))⟩
  · exact ⟨(gi 1 3 (by omega)).trans ((lo 1 3 (by omega) (by omega)).1.trans yi.1), yi.2.1, fun k hk => (gi 24 k (by omega)).trans ((lo 24 k (by omega) (by omega)).1.trans (yi.2.2 k hk))⟩
  · intro q hq
    show gI M2 52 q = nI (bN (if q = p then true else f q))
    by_cases z : q = p
    · rw [if_pos z, z]; exact c4
    · rw [if_neg z, n52 q z]; exact im.1 q hq
  · intro q hq z
    have z : (if q = p then true else f q) = false := z
    by_cases y : q = p
    · rw [if_pos y] at z; cases z
    · rw [if_neg y] at z
      rw [e23, i5 q y]; exact im.2.1 q hq z
  · intro q hq z
    have z : (if q = p then true else f q) = true := z
    show RIo M2 q (if q = p then v else V q) (if q = p then w else W q) ∧ PV (if q = p then v else V q) ∧ ∃ b, gR M2 23 q = some b ∧ SB M2 b ∧ SI M2 b (if q = p then v else V q) (if q = p then w else W q)
    by_cases y : q = p
    · rw [if_pos y, if_pos y, y]
      exact ⟨c3, pv, b, (e23 p).trans e, sb2 b hb sb, si3 b v w (Or.inr hb) sib⟩
    · rw [if_neg y] at z
      rw [if_neg y, if_neg y]
      obtain ⟨rio, pvq, c, d1, d2, d3⟩ := im.2.2.1 q hq z
      obtain ⟨k1, k2⟩ := ib q c hq d1
      have eq := oth q hq y
      have apc := ap c (by rw [← eq]; exact d1)
      have same : ∀ x, x < 21 → ∀ j, gI M1 (c + x) j = gI M (c + x) j ∧ gL M1 (c + x) j = gL M (c + x) j ∧ gR M1 (c + x) j = gR M (c + x) j := fun x hx j => by
        have := (i6 (c + x) (by omega)).2.2 (by omega) j
        exact ⟨this.1, this.2.1, this.2.2 (by omega)⟩
      refine ⟨⟨fun i h1 h2 => ?_, fun j hj => ?_⟩, pvq, c, by rw [e23, i5 q y]; exact d1, sb2 c k1 (d2.kp (fun x hx => ⟨(i6 (c + x) (by omega)).1, (i6 (c + x) (by omega)).2.1⟩) (fun x hx j => (same x hx j).2.2)), si3 c _ _ (Or.inr k1) (d3.kp i4 same)⟩
      · rw [n51 _ (by omega)]; exact rio.1 i h1 h2
      · rw [n51 _ (by omega)]; exact rio.2 j hj
  · intro c0 c1 h0 h1
    rw [e23] at h0 h1
    rcases (show p = 0 ∨ p = 1 by omega) with z | z
    · subst z
      rw [e] at h0
      cases h0
      rw [i5 1 (by omega)] at h1
      exact ap c1 h1
    · subst z
      rw [e] at h1
      cases h1
      rw [i5 0 (by omega)] at h0
      have := ap c0 h0
      omega
  · rw [f2.gn]; omega
  · rw [f2.gs]; omega
theorem O_image {L : Nat} {xs : Nat → Int32} {M : q_M} (J : JV L xs M) (rn : gN M + 200 ≤ 600000) (rs : gS M + 300000 ≤ 7302250) (x : Int32) : OKI 138 230 [.inl x] L xs M := by
  obtain ⟨v, w, bt, n, f, V, W, I⟩ := J
  have I0 := I
  obtain ⟨h, sc, ib, wz, pv, ri, wi, si, xi, yi, im⟩ := I0
  have g := h.2.2.2
  rcases R_image h ri wi x with ⟨no, _⟩ | ⟨p, _, hp, rfl, _⟩
  · refine ⟨_, I.ask0 (K_image_no no) (fun M1 h1 r1 w1 _ => ?_)⟩
    rcases R_image h1 r1 w1 x with ⟨_, e⟩ | ⟨p, _, hp, e1, _⟩
    · exact ⟨M1, e, NR.rf M1⟩
    · exact absurd ⟨p, hp, e1⟩ no
  have fin : ∀ b M1, 63 ≤ b → (∀ c, gR M 23 (1 - p) = some c → b + 21 ≤ c ∨ c + 21 ≤ b) → q_CL 138 [.inr (.inr (some 1)), .inl (nI p)] M = some (some (.inl (nI 1)), M1) → SH M1 → IB M1 → gR M1 23 p = some b → SB M1 b → SI M1 b v w → SI M1 2 v w → FI p b M M1 → OKI 138 230 [.inl (nI p)] L xs M := by
    intro b M1 hb ap k1 k2 k3 k4 k5 k6 k7 k8
    have lo : ∀ a k, a < 63 → a ≠ 23 → gL M1 a k = gL M a k := fun a k ha na => ((k8.2.2.2.2.2 a (by omega)).2.2 (by omega) k).2.1
    have ri1 : RI M1 v := fun i h1 h2 => by rw [lo 50 i (by omega) (by omega)]; exact ri i h1 h2
    have wi1 : WI M1 w := fun j hj => by rw [lo 50 _ (by omega) (by omega)]; exact wi j hj
    rcases R_image k2 ri1 wi1 (nI p) with ⟨no, _⟩ | ⟨p', M2, hp', e1, c1, c2, c3, c4⟩
    · exact absurd ⟨p, hp, rfl⟩ no
    · have eq := nU (by omega) (by omega) e1
      subst eq
      obtain ⟨o1, o2, o3, o4, o5⟩ := O_imP I hp hb ap k2 k3 k4 k5 k6 k7 k8 c2 c3 c4
      exact ⟨_, M1, M2, k1, o1, o2, c1, o3, o4, o5⟩
  cases e : gR M 23 p with
  | none =>
    obtain ⟨M1, k1, k2, k3, k4, k5, k6, k7, k8⟩ := K_imageA h ib pv.1 pv.2.1.1 si hp e (by omega) (by omega)
    exact fin (gN M) M1 g (fun c hc => by have := ib (1 - p) c (by omega) hc; omega) k1 k2 k3 k4 k5 k6 k7 k8
  | some b =>
    have fp : f p = true := by
      cases q : f p with
      | true => rfl
      | false => rw [im.2.1 p hp q] at e; cases e
    obtain ⟨_, _, b', b1, b2, _⟩ := im.2.2.1 p hp fp
    rw [e] at b1
    cases b1
    obtain ⟨M1, k1, k2, k3, k4, k5, k6, k7, k8⟩ := K_imageB h ib pv.1 pv.2.1.1 si hp e b2
    refine fin b M1 (ib p b hp e).1 (fun c hc => ?_) k1 k2 k3 k4 k5 k6 k7 k8
    rcases (show p = 0 ∨ p = 1 by omega) with z | z
    · subst z
      exact im.2.2.2 b c e hc
    · subst z
      have := im.2.2.2 c b hc e
      omega
