/-! ===== ACTS ON SHELVES ===== -/
theorem pgC_lo {v : Nat → Nat} {o k n x : Nat} (h : x < o + 2) : pgC v o k n x = v x := by
  unfold pgC
  rw [va_up_ne _ _ (by omega), va_up_ne _ _ (by omega)]
  unfold pcY
  rw [if_neg (by omega)]
theorem w6_lo {v c : Nat → Nat} {a x : Nat} (h : x < a) : w6 v a c x = v x := by
  unfold w6
  rw [va_up_ne _ _ (by omega), va_up_ne _ _ (by omega), va_up_ne _ _ (by omega), va_up_ne _ _ (by omega), va_up_ne _ _ (by omega), va_up_ne _ _ (by omega)]
theorem cmC_lo {v c : Nat → Nat} {o a g x : Nat} (ha : o + 4 ≤ a) (h : x < o + 2) : cmC v o a g c x = v x := by
  unfold cmC
  rw [va_up_ne _ _ (by omega), va_up_ne _ _ (by omega), w6_lo (by omega)]
theorem cmT_lo {v c : Nat → Nat} {o a g x : Nat} (ha : o + 4 ≤ a) (h : x < o + 2) : cmT v o a g c x = v x := by
  unfold cmT
  split
  · rw [pgC_lo h, va_up_ne _ _ (by omega), cmC_lo ha h]
  · exact cmC_lo ha h
theorem cmV_lo {v c : Nat → Nat} {o p g x : Nat} (h : x < o + 2) : cmV v o p g c x = v x := by
  unfold cmV
  rw [cmT_lo (by omega) h]
  unfold cmY
  rw [if_neg (by omega)]
  unfold cm1
  split
  · exact pgC_lo h
  · rfl
theorem pgG_lo {v : Nat → Nat} {o k x : Nat} (h : x < o + 2) : pgG v o k x = v x := by
  unfold pgG
  rw [va_up_ne _ _ (by omega)]
  unfold pgY
  rw [if_neg (by omega)]
theorem gsV_lo {v : Nat → Nat} {o p g x : Nat} (h : x < o + 2) : gsV v o p g x = v x := by
  have g1 : gs1 v o p g x = v x := by
    unfold gs1
    rw [va_up_ne _ _ (by omega), va_up_ne _ _ (by omega)]
    unfold gsY
    rw [if_neg (by omega)]
  unfold gsV gsT
  split
  · rw [pgG_lo h, g1]
  · split
    · rw [pgG_lo h, va_up_ne _ _ (by omega), g1]
    · split
      · rw [pgG_lo h, va_up_ne _ _ (by omega), g1]
      · exact g1
theorem sowR_lo {o i : Nat} : ∀ n g v u, sowR o i n g v u → ∀ x, x < o + 2 → u x = v x
  | 0, _, v, u, h, x, _ => by rw [show u = v from h]
  | n + 1, g, v, u, h, x, hx => by
    obtain ⟨nm, p, e, k, _, _, h3⟩ := h
    rw [sowR_lo n _ _ u h3 x hx, cmV_lo hx]
theorem cm_u {v : Nat → Nat} {i o nm : Nat} {q : Nat → Nat} {wt p g k p' g' k' : Nat} (a : cmAt v i o nm q wt p g k) (b : cmAt v i o nm q wt p' g' k') : p' = p ∧ g' = g ∧ k' = k := by
  obtain ⟨a1, a2, a3, a4, a5, a6, a7⟩ := a
  obtain ⟨b1, b2, b3, b4, b5, b6, b7⟩ := b
  have ep : p' = p := by
    rcases Nat.lt_trichotomy p p' with c | c | c
    · exact absurd (b2 p c) (a3 (by omega))
    · exact c.symm
    · exact absurd (a2 p' c) (b3 (by omega))
  subst ep
  have eg : g' = g := by
    by_cases c : p' = 0
    · rw [a4 c, b4 c]
    · exact pgAt_eq (b5 (by omega)).2 (a5 (by omega)).2
  subst eg
  exact ⟨rfl, rfl, pgAt_eq ⟨b6, b7⟩ ⟨a6, a7⟩⟩
theorem cm_q {v : Nat → Nat} {i o nm : Nat} {q q' : Nat → Nat} {wt p g k : Nat} (e : ∀ x, x < 3 → q' x = q x) (eN : npI v i q' = npI v i q) (b : cmAt v i o nm q' wt p g k) : cmAt v i o nm q wt p g k ∧ cP nm q' wt (npI v i q') = cP nm q wt (npI v i q) := by
  have eP : cP nm q' wt (npI v i q') = cP nm q wt (npI v i q) := by
    funext t
    unfold cP
    rw [e 0 (by omega), e 1 (by omega), e 2 (by omega), eN]
  refine ⟨?_, eP⟩
  obtain ⟨b1, b2, b3, b4, b5, b6, b7⟩ := b
  rw [eP] at b6 b7
  rw [eN] at b2 b3
  exact ⟨b1, b2, b3, b4, b5, b6, b7⟩
theorem frN_u {v : Nat → Nat} {o a b : Nat} (h : frN v o a) (k : frN v o b) : b = a := by
  rcases Nat.lt_trichotomy a b with c | c | c
  · obtain ⟨y, y1, y2⟩ := k.2 a c
    exact absurd y2 (h.1 y y1)
  · exact c.symm
  · obtain ⟨y, y1, y2⟩ := h.2 b c
    exact absurd y2 (k.1 y y1)
theorem sow_u {o i : Nat} : ∀ n g v u u', sowR o i n g v u → sowR o i n g v u' → u' = u
  | 0, _, v, u, u', h, k => by rw [show u = v from h, show u' = v from k]
  | n + 1, g, v, u, u', h, k => by
    obtain ⟨nm, p, e, k1, h1, h2, h3⟩ := h
    obtain ⟨nm', p', e', k1', g1, g2, g3⟩ := k
    have := frN_u h1 g1
    subst this
    obtain ⟨q1, q2, _⟩ := cm_u h2 g2
    subst q1; subst q2
    exact sow_u n _ _ u u' h3 g3
theorem acP_c {j : Nat} (hj : j < 4) : (∀ a, acP j a → 15 ≤ a ∧ a < 49 ∧ a ≠ 23) ∧ cls (acP j) ∧ (∀ k, k < 4 → k ≠ j → ¬ acP j (15 + 2 * k)) ∧ ∀ a, acP j a → a ≠ 1 ∧ a ≠ 24 := by
  have key : ∀ a, acP j a → 15 ≤ a ∧ a < 49 ∧ a ≠ 23 ∧ a ≠ 24 := fun a z => by
    unfold acP wsc sh2 at z
    omega
  refine ⟨fun a z => by have := key a z; omega, fun a z => by have := key a z; omega, fun k hk hn z => ?_, fun a z => by have := key a z; omega⟩
  unfold acP wsc sh2 at z
  omega
theorem kpU_lo {v : Nat → Nat} {j : Nat} (hj : j < 4) : ∀ x, x < 1100 → kpU v j x = v x := (kpU_a hj).1
theorem oS_ge (j : Nat) : 1100 ≤ oS j := by unfold oS; omega
/-- an act of both on a shelf -/
theorem INV.shelf {L : Nat} {xs : Nat → Int32} {M M1 M2 : q_M} {v u : Nat → Nat} {w bt : Nat → Int32} {n : Nat} {f : Nat → Bool} {V : Nat → Nat → Nat} {W : Nat → Nat → Int32} (I : INV L xs M v w bt n f V W) {k r : Nat} {as : List q_V} {a : q_V} (hk : q_CL k (.inr (.inr (some 1)) :: as) M = some (some a, M1)) {P : Nat → Prop} {nn ss j : Nat} (fk : FB P nn ss M M1) (hP : (∀ a, P a → 15 ≤ a ∧ a < 49 ∧ a ≠ 23) ∧ cls P ∧ (∀ k, k < 4 → k ≠ j → ¬ P (15 + 2 * k)) ∧ ∀ a, P a → a ≠ 1 ∧ a ≠ 24) (hn : nn ≤ 43) (hs : ss ≤ 1200) (wz : WZ M1) (hsh : HS M1 2 u) (e : ∀ x, x < 1100 → u x = v x) (uj : u (oS j) = 1) (hr : q_CL r (.inr (.inr (some 49)) :: as) M1 = some (some a, M2)) (fo : FO f50 M1 M2) (su : SV u) (ri : RI M2 u) (wi : WI M2 w) : OK k r as L xs M a := by
  have g := I.1.2.2.2
  have fx := FX.f50 (F2.fo fo)
  exact I.act hk fk hP.2.1 hn hs wz (I.2.2.2.2.2.2.2.1.shelf I.2.2.2.2.1 fk g hP.1 hP.2.2.1 e hsh uj) (YI.cl fk g hP.2.2.2 I.2.2.2.2.2.2.2.2.2.1) hr fx.1 (PV_cg I.2.2.2.2.1 su (fun x _ hx => e x (by omega))) ri wi (fx.xi (I.mid fk hP.2.1).2.2.2.2.1)
theorem O_put {L : Nat} {xs : Nat → Int32} {M : q_M} (J : JV L xs M) (rn : gN M + 200 ≤ 600000) (rs : gS M + 300000 ≤ 7302250) (x1 x2 x3 x4 x5 x6 : Int32) : OKI 89 192 [.inl x1, .inl x2, .inl x3, .inl x4, .inl x5, .inl x6] L xs M := by
  obtain ⟨v, w, bt, n, f, V, W, I⟩ := J
  have I0 := I
  obtain ⟨h, sc, ib, wz, pv, ri, wi, ⟨cs, cr, tl, hs, fn, rk, lz⟩, xi, yi, im⟩ := I0
  have sv := pv.1
  rcases R_put sv h ri wi x1 x2 x3 x4 x5 x6 with ⟨no, _⟩ | ⟨j, hj, rfl, ej, y⟩
  · refine ⟨_, I.ask0 (K_put_no sv h hs no) (fun M1 h1 r1 w1 _ => ?_)⟩
    rcases R_put sv h1 r1 w1 x1 x2 x3 x4 x5 x6 with ⟨_, M2, e, fo⟩ | ⟨j, hj, e1, ej, _⟩
    · exact ⟨M2, e, NR.fo fo⟩
    · exact absurd ⟨j, hj, e1, ej⟩ no
  have i8 : v (oS j + 1) < 8 := by have := ((sv.2 j hj).2.2 ej).1; have := sv.1.1; omega
  have hc := sv.1.2 _ ((sv.2 j hj).2.2 ej).1
  rcases y with ⟨no, _⟩ | ⟨nm, q, wt, rfl, hn, rfl, rfl, rfl, hq, rfl, hw, y⟩
  · refine ⟨_, I.ask0 (K_put2 sv h hs hj ej no) (fun M1 h1 r1 w1 _ => ?_)⟩
    rcases R_put sv h1 r1 w1 (nI j) x2 x3 x4 x5 x6 with ⟨n2, _⟩ | ⟨j', hj', e1, ej', y⟩
    · exact absurd ⟨j, hj, rfl, ej⟩ n2
    have eq := nU (by omega) (by omega) e1
    subst eq
    rcases y with ⟨_, M2, e, fo⟩ | ⟨nm, q, wt, q1, q2, q3, q4, q5, q6, q7, q8, _⟩
    · exact ⟨M2, e, NR.fo fo⟩
    · exact absurd ⟨nm, q, wt, q1, q2, q3, q4, q5, q6, q7, q8⟩ no
  have again : ∀ M1, SH M1 → RI M1 v → WI M1 w → (((∃ p, p < v (oS j + 2) ∧ nm = v (oS j + 4 + 6 * p)) ∧ ∃ M2, q_CL 192 [.inr (.inr (some 49)), .inl (nI j), .inl (nI nm), .inl (nI (q 0)), .inl (nI (q 1)), .inl (nI (q 2)), .inl (nI wt)] M1 = some (some (.inl (-5)), M2) ∧ FO (fun _ => False) M1 M2) ∨ ((∀ p, p < v (oS j + 2) → v (oS j + 4 + 6 * p) ≠ nm) ∧ ((v (oS j + 2) = 300 ∧ ∃ M2, q_CL 192 [.inr (.inr (some 49)), .inl (nI j), .inl (nI nm), .inl (nI (q 0)), .inl (nI (q 1)), .inl (nI (q 2)), .inl (nI wt)] M1 = some (some (.inl (-6)), M2) ∧ FO (fun _ => False) M1 M2) ∨ (v (oS j + 2) < 300 ∧ ∃ p g k M2, cmAt (kpU v j) (v (oS j + 1)) (oS j) nm q wt p g k ∧ q_CL 192 [.inr (.inr (some 49)), .inl (nI j), .inl (nI nm), .inl (nI (q 0)), .inl (nI (q 1)), .inl (nI (q 2)), .inl (nI wt)] M1 = some (some (.inl (nI k)), M2) ∧ FO f50 M1 M2 ∧ RI M2 (cmV (kpU v j) (oS j) p g (cP nm q wt (npI (kpU v j) (v (oS j + 1)) q))) ∧ WI M2 w ∧ SV (cmV (kpU v j) (oS j) p g (cP nm q wt (npI (kpU v j) (v (oS j + 1)) q))))))) := by
    intro M1 h1 r1 w1
    rcases R_put sv h1 r1 w1 (nI j) (nI nm) (nI (q 0)) (nI (q 1)) (nI (q 2)) (nI wt) with ⟨n2, _⟩ | ⟨j', hj', e1, ej', y⟩
    · exact absurd ⟨j, hj, rfl, ej⟩ n2
    have eq := nU (by omega) (by omega) e1
    subst eq
    rcases y with ⟨n2, _⟩ | ⟨nm', q', wt', q1, q2, q3, q4, q5, q6, q7, q8, y⟩
    · exact absurd ⟨nm, q, wt, rfl, hn, rfl, rfl, rfl, hq, rfl, hw⟩ n2
    have eq := nU (by omega) (by omega) q1
    subst eq
    have eq := nU (by omega) (by omega) q7
    subst eq
    have eq := isP_q hc hq q6 q3 q4 q5
    have h6 : ∀ t, t < 6 → kpU v j' (1 + 6 * v (oS j' + 1) + t) = v (1 + 6 * v (oS j' + 1) + t) := fun t ht => kpU_lo hj' _ (by omega)
    have eN : npI (kpU v j') (v (oS j' + 1)) q' = npI (kpU v j') (v (oS j' + 1)) q := (npI_1 h6 hc hq eq).trans (npI_1 h6 hc hq (fun _ _ => rfl)).symm
    rcases y with z | ⟨z1, z | ⟨z2, p, g, k, M2, ca, c1, c2, c3, c4, c5⟩⟩
    · exact Or.inl z
    · exact Or.inr ⟨z1, Or.inl z⟩
    · obtain ⟨ca2, eP⟩ := cm_q eq eN ca
      rw [eP] at c3 c5
      exact Or.inr ⟨z1, Or.inr ⟨z2, p, g, k, M2, ca2, c1, c2, c3, c4, c5⟩⟩
  rcases again M h ri wi with ⟨tk, _⟩ | ⟨fr_, ⟨f3, _⟩ | ⟨lt, p, g, k, _, ca, _, _, _, _, su⟩⟩
  · refine ⟨_, I.ask0 ((K_put_at sv h hs hj ej hn hw hq).1 tk) (fun M1 h1 r1 w1 _ => ?_)⟩
    rcases again M1 h1 r1 w1 with ⟨_, M2, e, fo⟩ | ⟨z, _⟩
    · exact ⟨M2, e, NR.fo fo⟩
    · obtain ⟨p, p1, p2⟩ := tk
      exact absurd p2.symm (z p p1)
  · refine ⟨_, I.ask0 ((K_put_at sv h hs hj ej hn hw hq).2 fr_ f3) (fun M1 h1 r1 w1 _ => ?_)⟩
    rcases again M1 h1 r1 w1 with ⟨⟨p, p1, p2⟩, _⟩ | ⟨_, ⟨_, M2, e, fo⟩ | ⟨z, _⟩⟩
    · exact absurd p2.symm (fr_ p p1)
    · exact ⟨M2, e, NR.fo fo⟩
    · omega
  · obtain ⟨M1, k1, k2, k3, k4⟩ := K_put sv h ib hs wz hj ej hn hw hq fr_ lt ca (by omega) (by omega)
    obtain ⟨m1, _, m3, m4, _⟩ := I.mid k2 (acP_c hj).2.1
    rcases again M1 m1 m3 m4 with ⟨⟨p, p1, p2⟩, _⟩ | ⟨_, ⟨z, _⟩ | ⟨_, p', g', k', M2, ca', c1, c2, c3, c4, _⟩⟩
    · exact absurd p2.symm (fr_ p p1)
    · omega
    · obtain ⟨e1, e2, e3⟩ := cm_u ca ca'
      subst e1; subst e2; subst e3
      have o1 := oS_ge j
      exact ⟨_, I.shelf k1 k2 (acP_c hj) (by omega) (by omega) k3 k4 (fun x hx => by rw [cmV_lo (by omega), kpU_lo hj x hx]) (by rw [cmV_lo (by omega)]; exact (SV_kpU hj sv ej).2.2.2) c1 c2 su c3 c4⟩
theorem O_drop {L : Nat} {xs : Nat → Int32} {M : q_M} (J : JV L xs M) (rn : gN M + 200 ≤ 600000) (rs : gS M + 300000 ≤ 7302250) (x1 x2 : Int32) : OKI 90 193 [.inl x1, .inl x2] L xs M := by
  obtain ⟨v, w, bt, n, f, V, W, I⟩ := J
  have I0 := I
  obtain ⟨h, sc, ib, wz, pv, ri, wi, ⟨cs, cr, tl, hs, fn, rk, lz⟩, xi, yi, im⟩ := I0
  have sv := pv.1
  rcases R_drop sv h ri wi x1 x2 with ⟨no, _⟩ | ⟨j, p, g, _, hj, rfl, ej, na, pa, _, _, _, _, su⟩
  · refine ⟨_, I.ask0 (K_drop_no sv h hs no) (fun M1 h1 r1 w1 _ => ?_)⟩
    rcases R_drop sv h1 r1 w1 x1 x2 with ⟨_, M2, e, fo⟩ | ⟨j, p, g, _, hj, e1, ej, na, _⟩
    · exact ⟨M2, e, NR.fo fo⟩
    · exact absurd ⟨j, p, hj, e1, ej, na⟩ no
  · obtain ⟨M1, k1, k2, k3, k4⟩ := K_drop sv h ib hs wz hj ej na pa (by omega) (by omega)
    obtain ⟨m1, _, m3, m4, _⟩ := I.mid k2 (acP_c hj).2.1
    rcases R_drop sv m1 m3 m4 (nI j) x2 with ⟨no, _⟩ | ⟨j', p', g', M2, hj', e1, ej', na', pa', c1, c2, c3, c4, _⟩
    · exact absurd ⟨j, p, hj, rfl, ej, na⟩ no
    · have eq := nU (by omega) (by omega) e1
      subst eq
      have eq := nm_u na na'
      subst eq
      have eq := pgAt_eq pa.2 pa'.2
      subst eq
      have o1 := oS_ge j'
      exact ⟨_, I.shelf k1 k2 (acP_c hj) (by omega) (by omega) k3 k4 (fun x hx => by rw [gsV_lo (by omega), kpU_lo hj x hx]) (by rw [gsV_lo (by omega)]; exact (SV_kpU hj sv ej).2.2.2) c1 c2 su c3 c4⟩
theorem O_move {L : Nat} {xs : Nat → Int32} {M : q_M} (J : JV L xs M) (rn : gN M + 200 ≤ 600000) (rs : gS M + 300000 ≤ 7302250) (x1 x2 x3 x4 x5 : Int32) : OKI 91 194 [.inl x1, .inl x2, .inl x3, .inl x4, .inl x5] L xs M := by
  obtain ⟨v, w, bt, n, f, V, W, I⟩ := J
  have I0 := I
  obtain ⟨h, sc, ib, wz, pv, ri, wi, ⟨cs, cr, tl, hs, fn, rk, lz⟩, xi, yi, im⟩ := I0
  have sv := pv.1
  rcases R_move sv h ri wi x1 x2 x3 x4 x5 with ⟨no, _⟩ | ⟨j, p, hj, rfl, ej, na, y⟩
  · refine ⟨_, I.ask0 (K_move_no sv h hs no) (fun M1 h1 r1 w1 _ => ?_)⟩
    rcases R_move sv h1 r1 w1 x1 x2 x3 x4 x5 with ⟨_, M2, e, fo⟩ | ⟨j, p, hj, e1, ej, na, _⟩
    · exact ⟨M2, e, NR.fo fo⟩
    · exact absurd ⟨j, p, hj, e1, ej, na⟩ no
  have i8 : v (oS j + 1) < 8 := by have := ((sv.2 j hj).2.2 ej).1; have := sv.1.1; omega
  have hc := sv.1.2 _ ((sv.2 j hj).2.2 ej).1
  rcases y with ⟨no, _⟩ | ⟨q, g, p2, g2, k, _, rfl, rfl, rfl, hq, pa, ca, _, _, _, _, su⟩
  · refine ⟨_, I.ask0 (K_move2 sv h hs hj ej na no) (fun M1 h1 r1 w1 _ => ?_)⟩
    rcases R_move sv h1 r1 w1 (nI j) x2 x3 x4 x5 with ⟨n2, _⟩ | ⟨j', p', hj', e1, ej', na', y⟩
    · exact absurd ⟨j, p, hj, rfl, ej, na⟩ n2
    have eq := nU (by omega) (by omega) e1
    subst eq
    rcases y with ⟨_, M2, e, fo⟩ | ⟨q, g, p2, g2, k, _, q1, q2, q3, q4, _⟩
    · exact ⟨M2, e, NR.fo fo⟩
    · exact absurd ⟨q, q4, q1, q2, q3⟩ no
  · obtain ⟨M1, k1, k2, k3, k4⟩ := K_move sv h ib hs wz hj ej na hq pa ca (by omega) (by omega)
    obtain ⟨m1, _, m3, m4, _⟩ := I.mid k2 (acP_c hj).2.1
    rcases R_move sv m1 m3 m4 (nI j) x2 (nI (q 0)) (nI (q 1)) (nI (q 2)) with ⟨n2, _⟩ | ⟨j', p', hj', e1, ej', na', y⟩
    · exact absurd ⟨j, p, hj, rfl, ej, na⟩ n2
    have eq := nU (by omega) (by omega) e1
    subst eq
    have eq := nm_u na na'
    subst eq
    rcases y with ⟨n2, _⟩ | ⟨q', g', p2', g2', k', M2, q1, q2, q3, hq', pa', ca', c1, c2, c3, c4, _⟩
    · exact absurd ⟨q, hq, rfl, rfl, rfl⟩ n2
    have eq := pgAt_eq pa.2 pa'.2
    subst eq
    have o1 := oS_ge j'
    have lo : ∀ x, x < 1100 → gsV (kpU v j') (oS j') p' g x = v x := fun x hx => by rw [gsV_lo (by omega), kpU_lo hj' x hx]
    have eq := isP_q hc hq hq' q1 q2 q3
    have h6 : ∀ t, t < 6 → gsV (kpU v j') (oS j') p' g (1 + 6 * v (oS j' + 1) + t) = v (1 + 6 * v (oS j' + 1) + t) := fun t ht => lo _ (by omega)
    have eN : npI (gsV (kpU v j') (oS j') p' g) (v (oS j' + 1)) q' = npI (gsV (kpU v j') (oS j') p' g) (v (oS j' + 1)) q := (npI_1 h6 hc hq eq).trans (npI_1 h6 hc hq (fun _ _ => rfl)).symm
    obtain ⟨ca2, eP⟩ := cm_q eq eN ca'
    rw [eP] at c3
    obtain ⟨e1, e2, e3⟩ := cm_u ca ca2
    subst e1; subst e2; subst e3
    exact ⟨_, I.shelf k1 k2 (acP_c hj) (by omega) (by omega) k3 k4 (fun x hx => by rw [cmV_lo (by omega)]; exact lo x hx) (by rw [cmV_lo (by omega), gsV_lo (by omega)]; exact (SV_kpU hj sv ej).2.2.2) c1 c2 su c3 c4⟩
theorem soP_c {j : Nat} (hj : j < 4) : (∀ a, soP j a → 15 ≤ a ∧ a < 49 ∧ a ≠ 23) ∧ cls (soP j) ∧ (∀ k, k < 4 → k ≠ j → ¬ soP j (15 + 2 * k)) ∧ ∀ a, soP j a → a ≠ 1 ∧ a ≠ 24 := by
  have key : ∀ a, soP j a → 15 ≤ a ∧ a < 49 ∧ a ≠ 23 ∧ a ≠ 24 := fun a z => by
    unfold soP swP sh2 a48 at z
    unfold wsc at z
    omega
  refine ⟨fun a z => by have := key a z; omega, fun a z => by have := key a z; omega, fun k hk hn z => ?_, fun a z => by have := key a z; omega⟩
  unfold soP swP sh2 a48 at z
  unfold wsc at z
  omega
theorem O_sow {L : Nat} {xs : Nat → Int32} {M : q_M} (J : JV L xs M) (rn : gN M + 200 ≤ 600000) (rs : gS M + 300000 ≤ 7302250) (x1 x2 x3 : Int32) : OKI 92 195 [.inl x1, .inl x2, .inl x3] L xs M := by
  obtain ⟨v, w, bt, n, f, V, W, I⟩ := J
  have I0 := I
  obtain ⟨h, sc, ib, wz, pv, ri, wi, ⟨cs, cr, tl, hs, fn, rk, lz⟩, xi, yi, im⟩ := I0
  have sv := pv.1
  rcases R_sow sv h ri wi x1 x2 x3 with ⟨no, _⟩ | ⟨j, hj, rfl, ej, y⟩
  · refine ⟨_, I.ask0 (K_sow_no sv h hs no) (fun M1 h1 r1 w1 _ => ?_)⟩
    rcases R_sow sv h1 r1 w1 x1 x2 x3 with ⟨_, M2, e, fo⟩ | ⟨j, hj, e1, ej, _⟩
    · exact ⟨M2, e, NR.fo fo⟩
    · exact absurd ⟨j, hj, e1, ej⟩ no
  rcases y with ⟨no, _⟩ | ⟨m, m1, m2, rfl, y⟩
  · refine ⟨_, I.ask0 (K_sow2 h hs hj ej no) (fun M1 h1 r1 w1 _ => ?_)⟩
    rcases R_sow sv h1 r1 w1 (nI j) x2 x3 with ⟨n2, _⟩ | ⟨j', hj', e1, ej', y⟩
    · exact absurd ⟨j, hj, rfl, ej⟩ n2
    have eq := nU (by omega) (by omega) e1
    subst eq
    rcases y with ⟨_, M2, e, fo⟩ | ⟨m, m1, m2, e2, _⟩
    · exact ⟨M2, e, NR.fo fo⟩
    · exact absurd ⟨m, m1, m2, e2⟩ no
  have again : ∀ M1, SH M1 → RI M1 v → WI M1 w → ((300 < v (oS j + 2) + m ∧ ∃ M2, q_CL 195 [.inr (.inr (some 49)), .inl (nI j), .inl (nI m), .inl x3] M1 = some (some (.inl (-6)), M2) ∧ FO (fun _ => False) M1 M2) ∨ (v (oS j + 2) + m ≤ 300 ∧ ∃ u M2, sowR (oS j) (v (oS j + 1)) m x3 (kpU v j) u ∧ q_CL 195 [.inr (.inr (some 49)), .inl (nI j), .inl (nI m), .inl x3] M1 = some (some (.inl (nI (v (oS j + 2) + m))), M2) ∧ FO f50 M1 M2 ∧ RI M2 u ∧ WI M2 w ∧ SV u)) := by
    intro M1 h1 r1 w1
    rcases R_sow sv h1 r1 w1 (nI j) (nI m) x3 with ⟨n2, _⟩ | ⟨j', hj', e1, ej', y⟩
    · exact absurd ⟨j, hj, rfl, ej⟩ n2
    have eq := nU (by omega) (by omega) e1
    subst eq
    rcases y with ⟨n2, _⟩ | ⟨m', m1', m2', e2, y⟩
    · exact absurd ⟨m, m1, m2, rfl⟩ n2
    have eq := nU (by omega) (by omega) e2
    subst eq
    exact y
  rcases again M h ri wi with ⟨big, _⟩ | ⟨fit, u, _, sr, _, _, _, _, su⟩
  · refine ⟨_, I.ask0 (K_sow6 sv h hs hj ej m1 m2 big) (fun M1 h1 r1 w1 _ => ?_)⟩
    rcases again M1 h1 r1 w1 with ⟨_, M2, e, fo⟩ | ⟨z, _⟩
    · exact ⟨M2, e, NR.fo fo⟩
    · omega
  · obtain ⟨M1, k1, k2, k3, k4⟩ := K_sow sv h ib hs wz hj ej m1 m2 fit sr (by omega) (by omega)
    obtain ⟨m1_, _, m3, m4, _⟩ := I.mid k2 (soP_c hj).2.1
    rcases again M1 m1_ m3 m4 with ⟨z, _⟩ | ⟨_, u', M2, sr', c1, c2, c3, c4, _⟩
    · omega
    · have eq := sow_u m x3 (kpU v j) u u' sr sr'
      subst eq
      have o1 := oS_ge j
      have lo := sowR_lo m x3 (kpU v j) u' sr
      exact ⟨_, I.shelf k1 k2 (soP_c hj) (by omega) (by omega) k3 k4 (fun x hx => by rw [lo x (by omega), kpU_lo hj x hx]) (by rw [lo _ (by omega)]; exact (SV_kpU hj sv ej).2.2.2) c1 c2 su c3 c4⟩
theorem sh2_c {j : Nat} (hj : j < 4) : (∀ a, sh2 j a → 15 ≤ a ∧ a < 49 ∧ a ≠ 23) ∧ cls (sh2 j) ∧ (∀ k, k < 4 → k ≠ j → ¬ sh2 j (15 + 2 * k)) ∧ ∀ a, sh2 j a → a ≠ 1 ∧ a ≠ 24 := by
  have key : ∀ a, sh2 j a → 15 ≤ a ∧ a < 49 ∧ a ≠ 23 ∧ a ≠ 24 := fun a z => by
    unfold sh2 at z
    omega
  refine ⟨fun a z => by have := key a z; omega, fun a z => by have := key a z; omega, fun k hk hn z => ?_, fun a z => by have := key a z; omega⟩
  unfold sh2 at z
  omega
theorem O_undo {L : Nat} {xs : Nat → Int32} {M : q_M} (J : JV L xs M) (x : Int32) : OKI 97 183 [.inl x] L xs M := by
  obtain ⟨v, w, bt, n, f, V, W, I⟩ := J
  have I0 := I
  obtain ⟨h, sc, ib, wz, pv, ri, wi, ⟨cs, cr, tl, hs, fn, rk, lz⟩, xi, yi, im⟩ := I0
  have sv := pv.1
  rcases R_undo h ri wi x with ⟨no, _⟩ | ⟨j, _, hj, rfl, ej, h1, _⟩
  · refine ⟨_, I.ask0 (K_undo_no sv h hs no) (fun M1 h1 r1 w1 _ => ?_)⟩
    rcases R_undo h1 r1 w1 x with ⟨_, M2, e, fo⟩ | ⟨j, _, hj, e1, ej, z, _⟩
    · exact ⟨M2, e, NR.fo fo⟩
    · exact absurd ⟨j, hj, e1, ej, z⟩ no
  · obtain ⟨M1, k1, k2, k3⟩ := K_undo sv h hs hj ej h1
    obtain ⟨m1, _, m3, m4, _⟩ := I.mid k2.fb (sh2_c hj).2.1
    rcases R_undo m1 m3 m4 (nI j) with ⟨no, _⟩ | ⟨j', M2, hj', e1, ej', _, c1, c2, c3, c4⟩
    · exact absurd ⟨j, hj, rfl, ej, h1⟩ no
    · have eq := nU (by omega) (by omega) e1
      subst eq
      have kd := kpD_a (v := v) hj'
      have u1 : kpD v j' (oS j') = 1 := by
        have a := kd.2.1 0 0 (by omega) (by omega)
        have b := (((sv.2 j' hj').2.2 ej').2 1 (by omega)).1
        rw [Nat.mul_zero, Nat.add_zero, Nat.add_zero] at a
        rw [a]
        exact b
      exact ⟨_, I.shelf k1 k2.fb (sh2_c hj) (by omega) (by omega) (WZ.fc k2 (by unfold sh2; omega) wz) k3 kd.1 u1 c1 c2 (SV_kpD hj sv ej h1) c3 c4⟩
theorem O_shelf {L : Nat} {xs : Nat → Int32} {M : q_M} (J : JV L xs M) (rn : gN M + 200 ≤ 600000) (rs : gS M + 300000 ≤ 7302250) (x y : Int32) : OKI 88 181 [.inl x, .inl y] L xs M := by
  obtain ⟨v, w, bt, n, f, V, W, I⟩ := J
  have I0 := I
  obtain ⟨h, sc, ib, wz, pv, ri, wi, ⟨cs, cr, tl, hs, fn, rk, lz⟩, xi, yi, im⟩ := I0
  have sv := pv.1
  have wc := sv.1
  have v8 := wc.1
  rcases R_shelf wc h ri wi x y with ⟨no, _⟩ | ⟨j, i, _, hj, rfl, hi, rfl, _⟩
  · refine ⟨_, I.ask0 (K_shelf_no wc h cs no) (fun M1 h1 r1 w1 _ => ?_)⟩
    rcases R_shelf wc h1 r1 w1 x y with ⟨_, e⟩ | ⟨j, i, _, hj, e1, hi, e2, _⟩
    · exact ⟨M1, e, NR.rf M1⟩
    · exact absurd ⟨j, i, hj, e1, hi, e2⟩ no
  · obtain ⟨M1, k1, k2, k3⟩ := K_shelf sv h ib cs hs hj hi (by omega) (by omega)
    obtain ⟨m1, _, m3, m4, _⟩ := I.mid k2 (sh2_c hj).2.1
    rcases R_shelf wc m1 m3 m4 (nI j) (nI i) with ⟨no, _⟩ | ⟨j', i', M2, hj', e1, hi', e2, c1, c2, c3, c4⟩
    · exact absurd ⟨j, i, hj, rfl, hi, rfl⟩ no
    · have eq := nU (by omega) (by omega) e1
      subst eq
      have eq := nU (by omega) (by omega) e2
      subst eq
      have o1 := oS_ge j'
      have o2 : oS j' + 14770 ≤ 60180 := by unfold oS; omega
      have lo : ∀ z, z < oS j' → shV v j' i' z = v z := fun z hz => by
        unfold shV
        rw [va_up_ne _ _ (by omega), va_up_ne _ _ (by omega), va_up_ne _ _ (by omega), va_up_ne _ _ (by omega), va_up_ne _ _ (by omega)]
      have u1 : shV v j' i' (oS j') = 1 := by
        unfold shV
        rw [va_up_ne _ _ (by omega), va_up_ne _ _ (by omega), va_up_ne _ _ (by omega), va_up_ne _ _ (by omega), va_up_self]
      have wz1 : WZ M1 := ⟨(k2.2.2.2.2.1 34 0 (by have := h.2.2.2; omega) (by unfold sh2; omega)).1.trans wz.1, (k2.2.2.2.2.1 35 0 (by have := h.2.2.2; omega) (by unfold sh2; omega)).2.1.trans wz.2⟩
      exact ⟨_, I.shelf k1 k2 (sh2_c hj) (by omega) (by omega) wz1 k3 (fun z hz => lo z (by omega)) u1 c1 c2 (SV_sh sv hj hi) c3 c4⟩
