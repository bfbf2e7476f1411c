/-! ===== QUESTIONS ===== -/
theorem nU {a b : Nat} (ha : a < 2 ^ 31) (hb : b < 2 ^ 31) (e : nI a = nI b) : b = a := ((nI_eq ha hb).mp e).symm
theorem wsc_q (a : Nat) (z : wsc a) : 25 ≤ a ∧ a < 49 := by unfold wsc at z; omega
theorem s39_q (a : Nat) (z : s39 a) : 25 ≤ a ∧ a < 49 := by unfold s39 at z; omega
theorem nr45_q (a : Nat) (z : nrP 45 46 47 a) : 25 ≤ a ∧ a < 49 := by unfold nrP s39 fdc at z; omega
theorem WZ_s39 {M M1 : q_M} (f : FC s39 M M1) (z : WZ M) : WZ M1 := WZ.fc f (by unfold s39; omega) z
theorem O_number {L : Nat} {xs : Nat → Int32} {M : q_M} (J : JV L xs M) (x1 x y z : Int32) : OKL 82 158 [.inl x1, .inl x, .inl y, .inl z] L xs M := by
  obtain ⟨v, w, bt, n, f, V, W, I⟩ := J
  have I0 := I
  obtain ⟨h, sc, ib, wz, pv, ri, wi, ⟨cs, cr, tl, hs, fn, rk, lz⟩, xi, yi, im⟩ := I0
  have wc := pv.1.1
  have v8 := wc.1
  rcases R_num h ri wc x1 x y z with ⟨no, _⟩ | ⟨i, q, hi, rfl, hq, rfl, rfl, rfl, _⟩
  · refine ⟨_, I.ask0 (K_number_no wc h cs no) (fun M1 h1 r1 _ _ => ?_)⟩
    rcases R_num h1 r1 wc x1 x y z with ⟨_, e⟩ | ⟨i, q, hi, e1, hq, e2, e3, e4, _⟩
    · exact ⟨M1, e, NR.rf M1⟩
    · exact absurd ⟨i, hi, e1, q, hq, e2, e3, e4⟩ no
  · refine ⟨_, I.ask wsc_q (K_number wc h cs wz hi hq) (fun M1 h1 r1 _ _ => ?_)⟩
    rcases R_num h1 r1 wc (nI i) (nI (q 0)) (nI (q 1)) (nI (q 2)) with ⟨no, _⟩ | ⟨i', q', hi', e1, hq', e2, e3, e4, M2, e, fm⟩
    · exact absurd ⟨i, hi, rfl, q, hq, rfl, rfl, rfl⟩ no
    · have ei := nU (by omega) (by omega) e1
      subst ei
      have hc := wc.2 i' hi'
      refine ⟨M2, ?_, NR.fm fm⟩
      rw [e, npI_1 (fun _ _ => rfl) hc hq (isP_q hc hq hq' e2 e3 e4)]
theorem O_place {L : Nat} {xs : Nat → Int32} {M : q_M} (J : JV L xs M) (x1 : Int32) (l : Int64) (x : Int32) : OKI 83 160 [.inl x1, .inr (.inl l), .inl x] L xs M := by
  obtain ⟨v, w, bt, n, f, V, W, I⟩ := J
  have I0 := I
  obtain ⟨h, sc, ib, wz, pv, ri, wi, ⟨cs, cr, tl, hs, fn, rk, lz⟩, xi, yi, im⟩ := I0
  have wc := pv.1.1
  have v8 := wc.1
  rcases R_pla h ri wc x1 l x with ⟨no, _⟩ | ⟨i, m, a, hi, rfl, hm, rfl, ha, rfl, _⟩
  · refine ⟨_, I.ask0 (K_place_no wc h cs no) (fun M1 h1 r1 _ _ => ?_)⟩
    rcases R_pla h1 r1 wc x1 l x with ⟨_, e⟩ | ⟨i, m, a, hi, e1, hm, e2, ha, e3, _⟩
    · exact ⟨M1, e, NR.rf M1⟩
    · exact absurd ⟨i, m, a, hi, e1, hm, e2, ha, e3⟩ no
  · refine ⟨_, I.ask wsc_q (K_place wc h cs wz hi hm ha) (fun M1 h1 r1 _ _ => ?_)⟩
    rcases R_pla h1 r1 wc (nI i) (lN m) (nI a) with ⟨no, _⟩ | ⟨i', m', a', hi', e1, hm', e2, ha', e3, M2, e, fm⟩
    · exact absurd ⟨i, m, a, hi, rfl, hm, rfl, ha, rfl⟩ no
    · have ei := nU (by omega) (by omega) e1
      subst ei
      have c62 := cS_62 (wc.2 i' hi')
      have em := ((pk_lEQ (by omega) (by omega)).mp e2).symm
      subst em
      have ea := nU (by omega) (by omega) e3
      subst ea
      exact ⟨M2, e, NR.fm fm⟩
theorem O_size {L : Nat} {xs : Nat → Int32} {M : q_M} (J : JV L xs M) (x : Int32) : OKL 84 148 [.inl x] L xs M := by
  obtain ⟨v, w, bt, n, f, V, W, I⟩ := J
  have I0 := I
  obtain ⟨h, sc, ib, wz, pv, ri, wi, ⟨cs, cr, tl, hs, fn, rk, lz⟩, xi, yi, im⟩ := I0
  have wc := pv.1.1
  have v8 := wc.1
  rcases R_size h ri wc x with ⟨no, _⟩ | ⟨i, hi, rfl, _⟩
  · refine ⟨_, I.ask0 (K_size_no wc h cs no) (fun M1 h1 r1 _ _ => ?_)⟩
    rcases R_size h1 r1 wc x with ⟨_, e⟩ | ⟨i, hi, e1, _⟩
    · exact ⟨M1, e, NR.rf M1⟩
    · exact absurd ⟨i, hi, e1⟩ no
  · refine ⟨_, I.ask0 (K_size wc h cs hi) (fun M1 h1 r1 _ _ => ?_)⟩
    rcases R_size h1 r1 wc (nI i) with ⟨no, _⟩ | ⟨i', hi', e1, e⟩
    · exact absurd ⟨i, hi, rfl⟩ no
    · have ei := nU (by omega) (by omega) e1
      subst ei
      exact ⟨M1, e, NR.rf M1⟩
theorem O_gap {L : Nat} {xs : Nat → Int32} {M : q_M} (J : JV L xs M) (x1 : Int32) (l : Int64) (x : Int32) : OKI 85 161 [.inl x1, .inr (.inl l), .inl x] L xs M := by
  obtain ⟨v, w, bt, n, f, V, W, I⟩ := J
  have I0 := I
  obtain ⟨h, sc, ib, wz, pv, ri, wi, ⟨cs, cr, tl, hs, fn, rk, lz⟩, xi, yi, im⟩ := I0
  have wc := pv.1.1
  have v8 := wc.1
  rcases R_gap h ri wc x1 l x with ⟨no, _⟩ | ⟨i, m, a, hi, rfl, a1, a2, rfl, hm, rfl, _⟩
  · refine ⟨_, I.ask0 (K_gap_no wc h cs no) (fun M1 h1 r1 _ _ => ?_)⟩
    rcases R_gap h1 r1 wc x1 l x with ⟨_, e⟩ | ⟨i, m, a, hi, e1, a1, a2, e2, hm, e3, _⟩
    · exact ⟨M1, e, NR.rf M1⟩
    · exact absurd ⟨i, m, a, hi, e1, a1, a2, e2, hm, e3⟩ no
  · refine ⟨_, I.ask wsc_q (K_gap wc h cs wz hi ⟨a1, a2⟩ hm) (fun M1 h1 r1 _ _ => ?_)⟩
    rcases R_gap h1 r1 wc (nI i) (lN m) (nI a) with ⟨no, _⟩ | ⟨i', m', a', hi', e1, a1', a2', e2, hm', e3, M2, e, fm⟩
    · exact absurd ⟨i, m, a, hi, rfl, a1, a2, rfl, hm, rfl⟩ no
    · have ei := nU (by omega) (by omega) e1
      subst ei
      have c62 := cS_62 (wc.2 i' hi')
      have em := ((pk_lEQ (by omega) (by omega)).mp e2).symm
      subst em
      have ea := nU (by omega) (by omega) e3
      subst ea
      exact ⟨M2, e, NR.fm fm⟩
theorem nm_u {v : Nat → Nat} {o : Nat} {x : Int32} {p q : Nat} (a : nmAt v o x p) (b : nmAt v o x q) : q = p := by
  rcases Nat.lt_trichotomy p q with c | c | c
  · exact absurd a.2.1 (b.2.2 p c)
  · exact c.symm
  · exact absurd b.2.1 (a.2.2 q c)
theorem O_find {L : Nat} {xs : Nat → Int32} {M : q_M} (J : JV L xs M) (x1 x2 : Int32) : OKI 93 185 [.inl x1, .inl x2] L xs M := by
  obtain ⟨v, w, bt, n, f, V, W, I⟩ := J
  have I0 := I
  obtain ⟨h, sc, ib, wz, pv, ri, wi, ⟨cs, cr, tl, hs, fn, rk, lz⟩, xi, yi, im⟩ := I0
  have sv := pv.1
  obtain ⟨_, _, y⟩ := R_find sv h ri x1 x2
  rcases y with ⟨no, _⟩ | ⟨j, hj, rfl, ej, y⟩
  · refine ⟨_, I.ask0 (K_find_no sv h hs no) (fun M1 h1 r1 _ _ => ?_)⟩
    obtain ⟨M2, fo, y⟩ := R_find sv h1 r1 x1 x2
    rcases y with ⟨_, e⟩ | ⟨j, hj, e1, ej, _⟩
    · exact ⟨M2, e, NR.fo fo⟩
    · exact absurd ⟨j, hj, e1, ej⟩ no
  · rcases y with ⟨no, _⟩ | ⟨p, hp, _⟩
    · refine ⟨_, I.ask0 ((K_find sv h hs hj ej x2).1 no) (fun M1 h1 r1 _ _ => ?_)⟩
      obtain ⟨M2, fo, y⟩ := R_find sv h1 r1 (nI j) x2
      rcases y with ⟨no2, _⟩ | ⟨j', hj', e1, ej', y⟩
      · exact absurd ⟨j, hj, rfl, ej⟩ no2
      · have eq := nU (by omega) (by omega) e1
        subst eq
        rcases y with ⟨_, e⟩ | ⟨p, hp, _⟩
        · exact ⟨M2, e, NR.fo fo⟩
        · exact absurd hp.2.1 (no p hp.1)
    · refine ⟨_, I.ask0 ((K_find sv h hs hj ej x2).2 p hp) (fun M1 h1 r1 _ _ => ?_)⟩
      obtain ⟨M2, fo, y⟩ := R_find sv h1 r1 (nI j) x2
      rcases y with ⟨no2, _⟩ | ⟨j', hj', e1, ej', y⟩
      · exact absurd ⟨j, hj, rfl, ej⟩ no2
      · have eq := nU (by omega) (by omega) e1
        subst eq
        rcases y with ⟨no2, _⟩ | ⟨p', hp', e⟩
        · exact absurd hp.2.1 (no2 p hp.1)
        · have := nm_u hp hp'
          subst this
          exact ⟨M2, e, NR.fo fo⟩
theorem O_at {L : Nat} {xs : Nat → Int32} {M : q_M} (J : JV L xs M) (x1 x2 x3 : Int32) : OKI 94 196 [.inl x1, .inl x2, .inl x3] L xs M := by
  obtain ⟨v, w, bt, n, f, V, W, I⟩ := J
  have I0 := I
  obtain ⟨h, sc, ib, wz, pv, ri, wi, ⟨cs, cr, tl, hs, fn, rk, lz⟩, xi, yi, im⟩ := I0
  have sv := pv.1
  obtain ⟨_, _, y⟩ := R_at sv h ri x1 x2 x3
  rcases y with ⟨no, _⟩ | ⟨j, p, t, hj, rfl, ej, rfl, hp, rfl, y⟩
  · refine ⟨_, I.ask0 (K_at_no sv h hs no) (fun M1 h1 r1 _ _ => ?_)⟩
    obtain ⟨M2, fo, y⟩ := R_at sv h1 r1 x1 x2 x3
    rcases y with ⟨_, e⟩ | ⟨j, p, t, hj, e1, ej, e2, hp, e3, y⟩
    · exact ⟨M2, e, NR.fo fo⟩
    · exact absurd ⟨j, p, t, hj, e1, ej, e2, hp, e3, by rcases y with ⟨y, _⟩ | ⟨y, _⟩ <;> omega⟩ no
  · have m300 := (((sv.2 j hj).2.2 ej).2 0 (by omega)).2.2.1
    have m300 : v (oS j + 2) ≤ 300 := m300
    have u : ∀ {M1 : q_M}, SH M1 → RI M1 v → ∃ M2, FO (fun _ => False) M1 M2 ∧ ((t < 5 ∧ q_CL 196 [.inr (.inr (some 49)), .inl (nI j), .inl (nI p), .inl (nI t)] M1 = some (some (.inl (nI (v (oS j + 4 + 6 * p + t)))), M2)) ∨ (t = 5 ∧ ∃ g, pgAt v (oS j) p g ∧ q_CL 196 [.inr (.inr (some 49)), .inl (nI j), .inl (nI p), .inl (nI t)] M1 = some (some (.inl (nI g)), M2))) := by
      intro M1 h1 r1
      obtain ⟨M2, fo, y2⟩ := R_at sv h1 r1 (nI j) (nI p) (nI t)
      have t6 : t < 6 := by rcases y with ⟨y, _⟩ | ⟨y, _⟩ <;> omega
      rcases y2 with ⟨no, _⟩ | ⟨j', p', t', hj', e1, ej', e2, hp', e3, y2⟩
      · exact absurd ⟨j, p, t, hj, rfl, ej, rfl, hp, rfl, t6⟩ no
      · have t6' : t' < 6 := by rcases y2 with ⟨y, _⟩ | ⟨y, _⟩ <;> omega
        have eq := nU (by omega) (by omega) e1
        subst eq
        have eq := nU (by omega) (by omega) e2
        subst eq
        have eq := nU (by omega) (by omega) e3
        subst eq
        exact ⟨M2, fo, y2⟩
    rcases y with ⟨ht, _⟩ | ⟨ht, g, pa, _⟩
    · refine ⟨_, I.ask0 ((K_at sv h hs hj ej hp).1 ht) (fun M1 h1 r1 _ _ => ?_)⟩
      obtain ⟨M2, fo, y⟩ := u h1 r1
      rcases y with ⟨_, e⟩ | ⟨z, _⟩
      · exact ⟨M2, e, NR.fo fo⟩
      · omega
    · refine ⟨_, I.ask0 ((K_at sv h hs hj ej hp).2 ht g pa) (fun M1 h1 r1 _ _ => ?_)⟩
      obtain ⟨M2, fo, y⟩ := u h1 r1
      rcases y with ⟨z, _⟩ | ⟨_, g', pa', e⟩
      · omega
      · have := pgAt_eq pa.2 pa'.2
        subst this
        exact ⟨M2, e, NR.fo fo⟩
theorem O_count {L : Nat} {xs : Nat → Int32} {M : q_M} (J : JV L xs M) (x1 x2 : Int32) : OKI 95 198 [.inl x1, .inl x2] L xs M := by
  obtain ⟨v, w, bt, n, f, V, W, I⟩ := J
  have I0 := I
  obtain ⟨h, sc, ib, wz, pv, ri, wi, ⟨cs, cr, tl, hs, fn, rk, lz⟩, xi, yi, im⟩ := I0
  have sv := pv.1
  obtain ⟨_, _, y⟩ := R_count sv h ri x1 x2
  rcases y with ⟨no, _⟩ | ⟨j, hj, rfl, ej, _⟩
  · refine ⟨_, I.ask0 (K_count_no sv h hs no) (fun M1 h1 r1 _ _ => ?_)⟩
    obtain ⟨M2, fo, y⟩ := R_count sv h1 r1 x1 x2
    rcases y with ⟨_, e⟩ | ⟨j, hj, e1, ej, _⟩
    · exact ⟨M2, e, NR.fo fo⟩
    · exact absurd ⟨j, hj, e1, ej⟩ no
  · refine ⟨_, I.ask0 (K_count sv h hs hj ej x2) (fun M1 h1 r1 _ _ => ?_)⟩
    obtain ⟨M2, fo, y⟩ := R_count sv h1 r1 (nI j) x2
    rcases y with ⟨no, _⟩ | ⟨j', hj', e1, ej', e⟩
    · exact absurd ⟨j, hj, rfl, ej⟩ no
    · have eq := nU (by omega) (by omega) e1
      subst eq
      exact ⟨M2, e, NR.fo fo⟩
theorem O_page {L : Nat} {xs : Nat → Int32} {M : q_M} (J : JV L xs M) (x1 x2 x3 : Int32) : OKI 96 200 [.inl x1, .inl x2, .inl x3] L xs M := by
  obtain ⟨v, w, bt, n, f, V, W, I⟩ := J
  have I0 := I
  obtain ⟨h, sc, ib, wz, pv, ri, wi, ⟨cs, cr, tl, hs, fn, rk, lz⟩, xi, yi, im⟩ := I0
  have sv := pv.1
  obtain ⟨_, _, y⟩ := R_page sv h ri x1 x2 x3
  rcases y with ⟨no, _⟩ | ⟨j, k, t, hj, rfl, ej, rfl, hk, rfl, ht, _⟩
  · refine ⟨_, I.ask0 (K_page_no sv h hs no) (fun M1 h1 r1 _ _ => ?_)⟩
    obtain ⟨M2, fo, y⟩ := R_page sv h1 r1 x1 x2 x3
    rcases y with ⟨_, e⟩ | ⟨j, k, t, hj, e1, ej, e2, hk, e3, ht, _⟩
    · exact ⟨M2, e, NR.fo fo⟩
    · exact absurd ⟨j, k, t, hj, e1, ej, e2, hk, e3, ht⟩ no
  · have sw := (((sv.2 j hj).2.2 ej).2 0 (by omega)).2.2
    have m300 : v (oS j + 2) ≤ 300 := sw.1
    have p300 : v (oS j + 3) ≤ v (oS j + 2) := sw.2.1
    refine ⟨_, I.ask0 (K_page sv h hs hj ej hk ht) (fun M1 h1 r1 _ _ => ?_)⟩
    obtain ⟨M2, fo, y⟩ := R_page sv h1 r1 (nI j) (nI k) (nI t)
    rcases y with ⟨no, _⟩ | ⟨j', k', t', hj', e1, ej', e2, hk', e3, ht', e⟩
    · exact absurd ⟨j, k, t, hj, rfl, ej, rfl, hk, rfl, ht⟩ no
    · have eq := nU (by omega) (by omega) e1
      subst eq
      have eq := nU (by omega) (by omega) e2
      subst eq
      have eq := nU (by omega) (by omega) e3
      subst eq
      exact ⟨M2, e, NR.fo fo⟩
theorem O_span {L : Nat} {xs : Nat → Int32} {M : q_M} (J : JV L xs M) (x y : Int32) : OKL 105 170 [.inl x, .inl y] L xs M := by
  obtain ⟨v, w, bt, n, f, V, W, I⟩ := J
  have I0 := I
  obtain ⟨h, sc, ib, wz, pv, ri, wi, ⟨cs, cr, tl, hs, fn, rk, lz⟩, xi, yi, im⟩ := I0
  have h5 := pv.2.1.1
  rcases R_span h ri h5 x y with ⟨no, _⟩ | ⟨j, b, hj, rfl, hb, rfl, _⟩
  · refine ⟨_, I.ask0 (K_span_no h5 h tl no) (fun M1 h1 r1 _ _ => ?_)⟩
    rcases R_span h1 r1 h5 x y with ⟨_, e⟩ | ⟨j, b, hj, e1, hb, e2, _⟩
    · exact ⟨M1, e, NR.rf M1⟩
    · exact absurd ⟨j, b, hj, e1, hb, e2⟩ no
  · refine ⟨_, I.ask0 (K_span h5 h tl hj hb) (fun M1 h1 r1 _ _ => ?_)⟩
    rcases R_span h1 r1 h5 (nI j) (nI b) with ⟨no, _⟩ | ⟨j', b', hj', e1, hb', e2, e⟩
    · exact absurd ⟨j, b, hj, rfl, hb, rfl⟩ no
    · have eq := nU (by omega) (by omega) e1
      subst eq
      have eq := nU (by omega) (by omega) e2
      subst eq
      exact ⟨M1, e, NR.rf M1⟩
theorem O_beyond {L : Nat} {xs : Nat → Int32} {M : q_M} (J : JV L xs M) : OKL 107 173 [] L xs M := by
  obtain ⟨v, w, bt, n, f, V, W, I⟩ := J
  have I0 := I
  obtain ⟨h, sc, ib, wz, pv, ri, wi, ⟨cs, cr, tl, hs, fn, rk, lz⟩, xi, yi, im⟩ := I0
  have so := pv.2.1
  exact ⟨_, I.ask0 (K_beyond so pv.2.2 h tl) (fun M1 h1 r1 _ _ => ⟨M1, R_bey h1 r1 so.1 (fun j hj => so.2 (2 * j) (by omega)), NR.rf M1⟩)⟩
theorem O_jump {L : Nat} {xs : Nat → Int32} {M : q_M} (J : JV L xs M) (x : Int32) (l : Int64) : OKL 108 174 [.inl x, .inr (.inl l)] L xs M := by
  obtain ⟨v, w, bt, n, f, V, W, I⟩ := J
  have I0 := I
  obtain ⟨h, sc, ib, wz, pv, ri, wi, ⟨cs, cr, tl, hs, fn, rk, lz⟩, xi, yi, im⟩ := I0
  have wc := pv.1.1
  have v8 := wc.1
  rcases R_jump wc h ri wi x l with ⟨no, _⟩ | ⟨i, lo, hh, q, _, hi, rfl, hw, hq, _⟩
  · refine ⟨_, I.ask wsc_q (K_jump_no wc h cs wz cr no) (fun M1 h1 r1 w1 _ => ?_)⟩
    rcases R_jump wc h1 r1 w1 x l with ⟨_, e⟩ | ⟨i, lo, hh, q, _, hi, e1, hw, _⟩
    · exact ⟨M1, e, NR.rf M1⟩
    · exact absurd ⟨i, hi, e1, lo, hh, hw⟩ no
  · refine ⟨_, I.ask wsc_q (K_jump wc h cs wz cr hi hw hq) (fun M1 h1 r1 w1 _ => ?_)⟩
    rcases R_jump wc h1 r1 w1 (nI i) l with ⟨no, _⟩ | ⟨i', lo', hh', q', M2, hi', e1, hw', hq', e, fm⟩
    · exact absurd ⟨i, hi, rfl, lo, hh, hw⟩ no
    · have eq := nU (by omega) (by omega) e1
      subst eq
      have u := isW_u (wc.2 i' hi') hw hw'
      have lneg : ∀ m, m < 2 ^ 63 → ¬ lN m < lN 0 := fun m hm z => by
        have := (pk_lLT hm (show 0 < 2 ^ 63 by omega)).mp z
        omega
      have ek : q' = q := by
        rcases hq with ⟨a1, a2⟩ | ⟨m, a1, rfl, a2⟩
        · rcases hq' with ⟨b1, b2⟩ | ⟨m', b1, rfl, b2⟩
          · exact Nx.uniq (Nx_cg (fun n _ => wP_w u n) b2) a2
          · exact absurd a1 (lneg m' b1)
        · rcases hq' with ⟨b1, b2⟩ | ⟨m', b1, b3, b2⟩
          · exact absurd b1 (lneg m a1)
          · have := ((pk_lEQ a1 b1).mp b3).symm
            subst this
            exact Nx.uniq (Nx_cg (fun n _ => wP_w u n) b2) a2
      subst ek
      exact ⟨M2, e, NR.fm fm⟩
theorem O_found {L : Nat} {xs : Nat → Int32} {M : q_M} (J : JV L xs M) (x1 x2 : Int32) : OKL 115 217 [.inl x1, .inl x2] L xs M := by
  obtain ⟨v, w, bt, n, f, V, W, I⟩ := J
  have I0 := I
  obtain ⟨h, sc, ib, wz, pv, ri, wi, ⟨cs, cr, tl, hs, fn, rk, lz⟩, xi, yi, im⟩ := I0
  have hN := fn.1
  rcases R_found hN h ri x1 x2 with ⟨no, _⟩ | ⟨i, t, rfl, hi, rfl, ht, _⟩
  · refine ⟨_, I.ask0 (K_found_no h fn no) (fun M1 h1 r1 _ _ => ?_)⟩
    rcases R_found hN h1 r1 x1 x2 with ⟨_, e⟩ | ⟨i, t, e1, hi, e2, ht, _⟩
    · exact ⟨M1, e, NR.rf M1⟩
    · exact absurd ⟨i, t, e1, hi, e2, ht⟩ no
  · refine ⟨_, I.ask0 (K_found h fn hi ht) (fun M1 h1 r1 _ _ => ?_)⟩
    rcases R_found hN h1 r1 (nI i) (nI t) with ⟨no, _⟩ | ⟨i', t', e1, hi', e2, ht', e⟩
    · exact absurd ⟨i, t, rfl, hi, rfl, ht⟩ no
    · have eq := nU (by omega) (by omega) e1
      subst eq
      have eq := nU (by omega) (by omega) e2
      subst eq
      exact ⟨M1, e, NR.rf M1⟩
theorem O_spent {L : Nat} {xs : Nat → Int32} {M : q_M} (J : JV L xs M) (x1 : Int32) : OKI 116 218 [.inl x1] L xs M := by
  obtain ⟨v, w, bt, n, f, V, W, I⟩ := J
  have I0 := I
  obtain ⟨h, sc, ib, wz, pv, ri, wi, ⟨cs, cr, tl, hs, fn, rk, lz⟩, xi, yi, im⟩ := I0
  rcases R_spent h ri x1 with ⟨no, _⟩ | ⟨t, rfl, ht, _⟩
  · refine ⟨_, I.ask0 (K_spent_no no) (fun M1 h1 r1 _ _ => ?_)⟩
    rcases R_spent h1 r1 x1 with ⟨_, e⟩ | ⟨t, e1, ht, _⟩
    · exact ⟨M1, e, NR.rf M1⟩
    · exact absurd ⟨t, e1, ht⟩ no
  · refine ⟨_, I.ask0 (K_spent h fn ht) (fun M1 h1 r1 _ _ => ?_)⟩
    rcases R_spent h1 r1 (nI t) with ⟨no, _⟩ | ⟨t', e1, ht', e⟩
    · exact absurd ⟨t, rfl, ht⟩ no
    · have eq := nU (by omega) (by omega) e1
      subst eq
      exact ⟨M1, e, NR.rf M1⟩
theorem meC_u {v : Nat → Nat} (v8 : v 0 ≤ 8) {x1 x2 x3 x4 : Int32} {i s w h i' s' w' h' : Nat} (a : meC v x1 x2 x3 x4 i s w h) (b : meC v x1 x2 x3 x4 i' s' w' h') : i' = i ∧ s' = s ∧ w' = w ∧ h' = h := by
  obtain ⟨a1, a2, _, a4, _, a6, _, _, a9, _, a11, a12, _, a14⟩ := a
  obtain ⟨b1, b2, _, b4, _, b6, _, _, b9, _, b11, b12, _, b14⟩ := b
  exact ⟨nU (by omega) (by omega) (a2.symm.trans b2), nU (by omega) (by omega) (a4.symm.trans b4), nU (by omega) (by omega) (a9.symm.trans b9), nU (by omega) (by omega) (a12.symm.trans b12)⟩
theorem NR.f49 {M M1 : q_M} (f : FL f49 M M1) : NR M M1 := NR.f2 (F2.fl f) (fun _ z => Or.inl z)
theorem O_mean {L : Nat} {xs : Nat → Int32} {M : q_M} (J : JV L xs M) (x1 x2 x3 x4 x5 : Int32) : OKL 120 222 [.inl x1, .inl x2, .inl x3, .inl x4, .inl x5] L xs M := by
  obtain ⟨v, w, bt, n, f, V, W, I⟩ := J
  have I0 := I
  obtain ⟨h, sc, ib, wz, pv, ri, wi, ⟨cs, cr, tl, hs, fn, rk, lz⟩, xi, yi, im⟩ := I0
  have wc := pv.1.1
  have v8 := wc.1
  rcases R_mean wc h ri x1 x2 x3 x4 x5 with ⟨no, _⟩ | ⟨i, s, w_, u, t, _, mc, rfl, ht, _⟩
  · refine ⟨_, I.ask0 (K_mean_no wc h cs no) (fun M1 h1 r1 _ _ => ?_)⟩
    rcases R_mean wc h1 r1 x1 x2 x3 x4 x5 with ⟨_, M2, e, fl⟩ | ⟨i, s, w_, u, t, _, mc, e1, ht, _⟩
    · exact ⟨M2, e, NR.f49 fl⟩
    · exact absurd ⟨i, s, w_, u, t, mc, e1, ht⟩ no
  · refine ⟨_, I.ask wsc_q (K_mean wc h cs wz mc ht) (fun M1 h1 r1 _ _ => ?_)⟩
    rcases R_mean wc h1 r1 x1 x2 x3 x4 (nI t) with ⟨no, _⟩ | ⟨i', s', w', u', t', M2, mc', e1, ht', e, fl⟩
    · exact absurd ⟨i, s, w_, u, t, mc, rfl, ht⟩ no
    · obtain ⟨q1, q2, q3, q4⟩ := meC_u v8 mc mc'
      subst q1; subst q2; subst q3; subst q4
      have eq := nU (by omega) (by omega) e1
      subst eq
      exact ⟨M2, e, NR.f49 fl⟩
theorem O_compare {L : Nat} {xs : Nat → Int32} {M : q_M} (J : JV L xs M) (x1 x2 x3 x4 x5 : Int32) : OKI 121 223 [.inl x1, .inl x2, .inl x3, .inl x4, .inl x5] L xs M := by
  obtain ⟨v, w, bt, n, f, V, W, I⟩ := J
  have I0 := I
  obtain ⟨h, sc, ib, wz, pv, ri, wi, ⟨cs, cr, tl, hs, fn, rk, lz⟩, xi, yi, im⟩ := I0
  have wc := pv.1.1
  have v8 := wc.1
  rcases R_compare wc h ri x1 x2 x3 x4 x5 with ⟨no, _⟩ | ⟨i, j, s, w_, u, _, mc, mc2, _⟩
  · refine ⟨_, I.ask0 (K_cmp_no wc h cs no) (fun M1 h1 r1 _ _ => ?_)⟩
    rcases R_compare wc h1 r1 x1 x2 x3 x4 x5 with ⟨_, M2, e, fl⟩ | ⟨i, j, s, w_, u, _, mc, mc2, _⟩
    · exact ⟨M2, e, NR.f49 fl⟩
    · exact absurd ⟨i, j, s, w_, u, mc, mc2⟩ no
  · refine ⟨_, I.ask wsc_q (K_cmp wc h cs wz mc mc2) (fun M1 h1 r1 _ _ => ?_)⟩
    rcases R_compare wc h1 r1 x1 x2 x3 x4 x5 with ⟨no, _⟩ | ⟨i', j', s', w', u', M2, mc', mc2', e, fl⟩
    · exact absurd ⟨i, j, s, w_, u, mc, mc2⟩ no
    · obtain ⟨q1, q2, q3, q4⟩ := meC_u v8 mc mc'
      subst q1; subst q2; subst q3; subst q4
      obtain ⟨q1, _⟩ := meC_u v8 mc2 mc2'
      subst q1
      exact ⟨M2, e, NR.f49 fl⟩
theorem O_out {L : Nat} {xs : Nat → Int32} {M : q_M} (J : JV L xs M) (x1 : Int32) : OKI 127 225 [.inl x1] L xs M := by
  obtain ⟨v, w, bt, n, f, V, W, I⟩ := J
  have I0 := I
  obtain ⟨h, sc, ib, wz, pv, ri, wi, ⟨cs, cr, tl, hs, fn, rk, lz⟩, xi, yi, im⟩ := I0
  have n27 := yi.2.1
  rcases R_outR h xi x1 with ⟨no, _⟩ | ⟨i, hi, rfl, _⟩
  · refine ⟨_, I.ask0 (K_out_no h yi no) (fun M1 h1 r1 _ x => ?_)⟩
    rcases R_outR h1 x x1 with ⟨_, e⟩ | ⟨i, hi, e1, _⟩
    · exact ⟨M1, e, NR.rf M1⟩
    · exact absurd ⟨i, hi, e1⟩ no
  · refine ⟨_, I.ask0 (K_out h yi hi) (fun M1 h1 r1 _ x => ?_)⟩
    rcases R_outR h1 x (nI i) with ⟨no, _⟩ | ⟨i', hi', e1, e⟩
    · exact absurd ⟨i, hi, rfl⟩ no
    · have eq := nU (by omega) (by omega) e1
      subst eq
      exact ⟨M1, e, NR.rf M1⟩
theorem askI_u {v : Nat → Nat} (sv : SV v) {x1 x2 x3 x4 x5 x6 : Int32} {j j' wy wy' n n' : Nat} {q q' : Nat → Nat} (a : askI v x1 x2 x3 x4 x5 x6 j q wy n) (b : askI v x1 x2 x3 x4 x5 x6 j' q' wy' n') : j' = j ∧ wy' = wy ∧ n' = n ∧ ∀ x, x < 3 → q' x = q x := by
  obtain ⟨a1, a2, a3, a4, a5, a6, a7, a8, a9, a10, a11, a12⟩ := a
  obtain ⟨b1, b2, b3, b4, b5, b6, b7, b8, b9, b10, b11, b12⟩ := b
  have ej := nU (by omega) (by omega) (a2.symm.trans b2)
  subst ej
  have hi := ((sv.2 j' b1).2.2 b3).1
  exact ⟨rfl, nU (by omega) (by omega) (a8.symm.trans b8), nU (by omega) (by omega) (a10.symm.trans b10), isP_q (sv.1.2 _ hi) a7 b7 (a4.symm.trans b4) (a5.symm.trans b5) (a6.symm.trans b6)⟩
