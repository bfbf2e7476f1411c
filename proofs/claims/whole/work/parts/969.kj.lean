/-! ===== THE CLASS: spans, span, few, beyond ===== -/
def gsp (a : Nat) : Prop := wsc a ∨ (42 ≤ a ∧ a ≤ 44)
theorem gsp_ok (a : Nat) (h : gsp a) : a < 63 ∧ a ≠ 23 := by unfold gsp wsc at h; omega
/-- what is gathered -/
def SG (M : q_M) (l : List (Nat × Nat)) (pl : Nat) : Prop := SpV M 42 43 44 l.length pl (fun t => (l.getD t (0, 0)).1) (fun t => (l.getD t (0, 0)).2)
theorem K_append {M : q_M} (h : SH M) {l : List (Nat × Nat)} {pl : Nat} (g : SG M l pl) (hl : l.length < 200) (a b : Nat) : ∃ M1, q_CL 54 [.inr (.inr (some 42)), .inr (.inl (lN a)), .inr (.inl (lN b))] M = some (none, M1) ∧ FC (fun x => 42 ≤ x ∧ x ≤ 44) M M1 ∧ SG M1 (l ++ [(a, b)]) pl := by
  obtain ⟨g1, g2, g3⟩ := g
  have P : ∀ x, 42 ≤ x ∧ x ≤ 44 → (fun x => 42 ≤ x ∧ x ≤ 44) x := fun x z => z
  have ha : ∀ {M : q_M}, SH M → ∀ {x : Int64}, q_bL M 43 (nI l.length) x = some (stL M 43 l.length x) := fun {M} h {x} => y_bL h (by omega) (by omega) rfl hl (by decide)
  have hb : ∀ {M : q_M}, SH M → ∀ {x : Int64}, q_bL M 44 (nI l.length) x = some (stL M 44 l.length x) := fun {M} h {x} => y_bL h (by omega) (by omega) rfl hl (by decide)
  have hA : SH (stL M 43 l.length (lN a)) := h
  have hB : SH (stL (stL M 43 l.length (lN a)) 44 l.length (lN b)) := h
  have f2 : ∀ {M : q_M}, SH M → q_fI M 7 42 2 = some (gI M 42 2) := fun {M} h => y_fI h (by omega) rfl
  have s2 : ∀ {M : q_M}, SH M → ∀ {x : Int32}, q_sI M 7 42 2 x = some (stI M 42 2 x) := fun {M} h {x} => y_sI h (by omega) rfl
  have r0 : ∀ {M : q_M}, SH M → q_fR M 7 42 0 = some (some 43) := fun {M} h => y_fR h (by omega) rfl (by decide)
  have r1 : ∀ {M : q_M}, SH M → q_fR M 7 42 1 = some (some 44) := fun {M} h => y_fR h (by omega) rfl (by decide)
  refine ⟨stI (stL (stL M 43 l.length (lN a)) 44 l.length (lN b)) 42 2 (nI (l.length + 1)), ?_, (((FC.rf (fun x => 42 ≤ x ∧ x ≤ 44) M).sL (a := 43) (by omega)).sL (a := 44) (by omega)).sI (a := 42) (by omega), ?_, ?_, fun k hk => ?_⟩
  · rw [C_X7_append]
    simp only [f2 h, Option.bind_some, g1]
    rw [if_neg (nI_ge hl (by omega))]
    simp only [r0 h, f2 h, Option.bind_some, g1, ha h, r1 hA, f2 hA, gI_stL, hb hA, f2 hB, nI_add, s2 hB]
  · rw [gI_self, List.length_append]; rfl
  · rw [gL_stI, gL_oth (by omega), gL_oth (by omega)]; exact g2
  · rw [List.length_append] at hk
    have hk2 : k < l.length + 1 := hk
    simp only [getD_app2 hk2]
    by_cases q : k = l.length
    · subst q
      rw [if_pos rfl]
      exact ⟨by rw [gL_stI, gL_oth (by omega), gL_self], by rw [gL_stI, gL_self]⟩
    · rw [if_neg q]
      have := g3 k (by omega)
      exact ⟨by rw [gL_stI, gL_oth (by omega), gL_oth (by omega)]; exact this.1, by rw [gL_stI, gL_oth (by omega), gL_oth (by omega)]; exact this.2⟩
theorem K_volW {M : q_M} (h : SH M) {lo hi : Nat → Nat} (wv : WV M lo hi) (hw : ∀ a, a < 3 → lo a ≤ hi a ∧ hi a < 2 ^ 20) : q_CL 70 [.inr (.inr (some 25))] M = some (some (.inr (.inl (lN (volW lo hi 3)))), M) := by
  rw [C_X10_windowPlaces]
  have key : ∀ m a, a + m = 3 → ∀ d2, q_RL T_X10_windowPlaces (4, [some (.inr (.inr (some 25))), some (.inr (.inl (lN (volW lo hi a)))), d2, some (.inl (nI a))], [], M) = some (some (.inr (.inl (lN (volW lo hi 3)))), M) := by
    intro m
    induction m with
    | zero =>
      intro a ha d2
      rw [E_X10_windowPlaces_4, if_pos (nI_le (by omega) (by omega)), show a = 3 by omega]
    | succ m ih =>
      intro a ha d2
      have a3 : a < 3 := by omega
      have := hw a a3
      rw [E_X10_windowPlaces_4, if_neg (nI_ge a3 (by omega))]
      simp only [w_f h (show (25, 5, 37) ∈ q_crs by decide), w_f h (show (25, 6, 38) ∈ q_crs by decide), Option.bind_some, w_a3 h (Or.inl rfl) a3, w_a3 h (Or.inr rfl) a3, (wv a a3).1, (wv a a3).2, pk_sub this.1, nI_add, nI_l (show hi a - lo a + 1 < 2 ^ 31 by omega), lN_mul, nI_1]
      exact ih (a + 1) (by omega) none
  exact key 3 0 (by omega) none
theorem K_ga27 {v : Nat → Nat} {i : Nat} (hc : okI v i) {o : Nat} {lo hi : Nat → Nat} (hw : ∀ a, a < 3 → lo a ≤ hi a ∧ hi a < 2 ^ 20) {pl : Nat} : ∀ m k, k + m = 200 → ∀ (l : List (Nat × Nat)), l.length = k → ∀ f q, f ≤ cS v i → Nx (wP v i 1 lo hi) (cS v i) f q → ∀ {M : q_M}, WK M o (cK v i) (cD v i) (cL v i) i → WV M lo hi → WZ M → (∀ n, q = some n → PT M (cmI v i) (lsm (cL v i)) n (lsm (cL v i))) → SG M l pl → ∀ d3 d5 d6, ∃ l2 M1, spL (wP v i 1 lo hi) (cS v i) f l2 ∧ FC gsp M M1 ∧ WZ M1 ∧ ((k + l2.length ≤ 200 ∧ q_RL T_X11_gatherSpans (27, [some (.inr (.inr (some 1))), some (.inr (.inr (some o))), some (.inr (.inl (rL q))), d3, some (.inl (nI k)), d5, d6], [], M) = some (some (.inl (nI 1)), M1) ∧ SG M1 (l ++ l2) pl) ∨ (200 < k + l2.length ∧ q_RL T_X11_gatherSpans (27, [some (.inr (.inr (some 1))), some (.inr (.inr (some o))), some (.inr (.inl (rL q))), d3, some (.inl (nI k)), d5, d6], [], M) = some (some (.inl (nI 0)), M1))) := by
  have t0 : nI 0 = 0 ∨ nI 0 = 1 := Or.inl rfl
  have t1 : nI 1 = 0 ∨ nI 1 = 1 := Or.inr rfl
  have c62 := cS_62 hc
  have S1 : 1 ≤ cS v i := by rw [← okI_S hc]; exact Nat.pow_pos (by have := cB_2 (cK v i); omega)
  have ng : ¬ (0 ≤ lg_cmp (rL none) (lN 0)) := by decide +kernel
  have pg : ∀ n, n < cS v i → 0 ≤ lg_cmp (rL (some n)) (lN 0) := fun n hn => by
    rw [lg_cmp_ge]
    exact (pk_lLE (by omega) (by omega)).mpr (Nat.zero_le n)
  intro m
  induction m with
  | zero =>
    intro k hk l hl f q hfS nx M w wv wz pt sg d3 d5 d6
    rw [E_X11_gatherSpans_27, if_pos (nI_le (by omega) (by omega))]
    cases q with
    | none =>
      refine ⟨[], M, nx, FC.rf _ M, wz, Or.inl ⟨by show k + 0 ≤ 200; omega, ?_, by rw [List.append_nil]; exact sg⟩⟩
      rw [if_neg ng, if_pos t1]
    | some n =>
      obtain ⟨l2, s2⟩ := spL_ex (wP v i 1 lo hi) (cS v i) (cS v i) f (by omega)
      refine ⟨l2, M, s2, FC.rf _ M, wz, Or.inr ⟨?_, ?_⟩⟩
      · cases l2 with
        | nil => exact absurd nx.2.2.1 (s2 n nx.1 nx.2.1)
        | cons _ _ => simp only [List.length_cons]; omega
      · rw [if_pos (pg n nx.2.1), if_pos t0]
  | succ m ih =>
    intro k hk l hl f q hfS nx M w wv wz pt sg d3 d5 d6
    have h := w.1
    rw [E_X11_gatherSpans_27, if_neg (nI_ge (by omega) (by omega))]
    cases q with
    | none =>
      refine ⟨[], M, nx, FC.rf _ M, wz, Or.inl ⟨by show k + 0 ≤ 200; omega, ?_, by rw [List.append_nil]; exact sg⟩⟩
      rw [if_neg ng, if_pos t1]
    | some n =>
      obtain ⟨x1, x2, x3, x4⟩ := nx
      rw [if_pos (pg n x2)]
      obtain ⟨q2, A, a1, a2, a3, a4⟩ := K_onward (c := o) (i := i) hc.1 (o := 0) (Or.inl rfl) hw w wv (n := n) (by rw [okI_S hc]; exact x2) (pt n rfl)
      rw [okI_S hc] at a2
      have a2' : Nx (wP v i 0 lo hi) (cS v i) (n + 1) q2 := a2
      have wA := a3.wk w
      have hA := wA.1
      have zA := WZ.wf a3 wz
      have sgA : SG A l pl := by
        obtain ⟨g1, g2, g3⟩ := sg
        have e : ∀ x k, 42 ≤ x ∧ x ≤ 44 → gI A x k = gI M x k ∧ gL A x k = gL M x k ∧ gR A x k = gR M x k := fun x k hx => a3.1.2.2.2.1 x k (by unfold wsc; omega)
        exact ⟨(e 42 2 (by omega)).1.trans g1, (e 42 3 (by omega)).2.1.trans g2, fun k hk => ⟨(e 43 k (by omega)).2.1.trans (g3 k hk).1, (e 44 k (by omega)).2.1.trans (g3 k hk).2⟩⟩
      simp only [c_now h (show (1, 4, 25) ∈ q_crs by decide), Option.bind_some, w_sel h, a1, z_rL]
      cases q2 with
      | none =>
        rw [if_neg ng]
        obtain ⟨B, b1, b2, b3⟩ := K_append hA sgA (by omega) n (cS v i - 1)
        have tt := wA.2.1.tt
        rw [okI_S hc] at tt
        have inside : ∀ m, n ≤ m → m ≤ cS v i - 1 → wP v i 1 lo hi m := fun m h1 h2 => by
          by_cases e : m = n
          · rw [e]; exact x3
          · apply Classical.byContradiction
            intro z
            exact a2' m (by omega) (by omega) (wP_01.mpr z)
        refine ⟨[(n, cS v i - 1)], B, ⟨x1, by omega, by omega, x4, inside, fun z => by omega, fun m h1 h2 => by omega⟩, (a3.1.wk fun a z => Or.inl z).tr (b2.wk fun a z => Or.inr z), WZ.fc b2 (by omega) zA, Or.inl ⟨by show k + 1 ≤ 200; omega, ?_, b3⟩⟩
        simp only [c_now hA (show (1, 6, 42) ∈ q_crs by decide), Option.bind_some, tt, lN_sub S1, y_sel hA (show 42 < 63 by omega) (show q_tgs.getD 42 0 = 7 from rfl), show rL (some n) = lN n from rfl, b1, z_rV, if_pos t1]
      | some m' =>
        obtain ⟨y1, y2, y3, y4⟩ := a2'
        rw [if_pos (pg m' y2)]
        obtain ⟨B, b1, b2, b3⟩ := K_append hA sgA (by omega) n (m' - 1)
        have b2' : FC (fun x => x = 42 ∨ x = 43 ∨ x = 44) A B := b2.wk fun a z => by omega
        have hB := b2.sh hA
        have eB : ∀ x k, x < 42 → gI B x k = gI A x k ∧ gL B x k = gL A x k ∧ gR B x k = gR A x k := fun x k hx => b2.2.2.2.1 x k (by omega)
        have wB : WK B o (cK v i) (cD v i) (cL v i) i := ⟨hB, wA.2.1.fc b2 (fun a z => by omega), (eB 25 7 (by omega)).2.2.trans wA.2.2.1, (eB 25 8 (by omega)).1.trans wA.2.2.2⟩
        have wvB : WV B lo hi := fun a ha => ⟨(eB 37 a (by omega)).1.trans ((a3.wv wv) a ha).1, (eB 38 a (by omega)).1.trans ((a3.wv wv) a ha).2⟩
        have ptA := a4 m' rfl
        have ptB : PT B (cmI v i) (lsm (cL v i)) m' (lsm (cL v i)) := ⟨fun j hj => ⟨fun a ha => ⟨(eB _ _ (by omega)).1.trans ((ptA.1 j hj).1 a ha).1, (eB _ _ (by omega)).1.trans ((ptA.1 j hj).1 a ha).2⟩, (eB 34 j (by omega)).1.trans (ptA.1 j hj).2.1, (eB 35 j (by omega)).2.1.trans (ptA.1 j hj).2.2⟩, fun j hj => (eB 36 j (by omega)).1.trans (ptA.2 j hj)⟩
        obtain ⟨q3, C, c1, c2, c3, c4⟩ := K_onward (c := o) (i := i) hc.1 (o := 1) (Or.inr rfl) hw wB wvB (n := m') (by rw [okI_S hc]; exact y2) ptB
        rw [okI_S hc] at c2
        have nm : ¬ wP v i 1 lo hi m' := wP_01.mp y3
        have c2' : Nx (wP v i 1 lo hi) (cS v i) m' q3 := by
          cases q3 with
          | none =>
            intro x hx hx2
            by_cases e : x = m'
            · rw [e]; exact nm
            · exact c2 x (by omega) hx2
          | some z =>
            obtain ⟨z1, z2, z3, z4⟩ := c2
            refine ⟨by omega, z2, z3, fun x hx hx2 => ?_⟩
            by_cases e : x = m'
            · rw [e]; exact nm
            · exact z4 x (by omega) hx2
        have wC := c3.wk wB
        have sgC : SG C (l ++ [(n, m' - 1)]) pl := by
          obtain ⟨g1, g2, g3⟩ := b3
          have e : ∀ x k, 42 ≤ x ∧ x ≤ 44 → gI C x k = gI B x k ∧ gL C x k = gL B x k ∧ gR C x k = gR B x k := fun x k hx => c3.1.2.2.2.1 x k (by unfold wsc; omega)
          exact ⟨(e 42 2 (by omega)).1.trans g1, (e 42 3 (by omega)).2.1.trans g2, fun k hk => ⟨(e 43 k (by omega)).2.1.trans (g3 k hk).1, (e 44 k (by omega)).2.1.trans (g3 k hk).2⟩⟩
        obtain ⟨l2, D, e1, e2, e3, e4⟩ := ih (k + 1) (by omega) (l ++ [(n, m' - 1)]) (by rw [List.length_append]; show l.length + 1 = k + 1; omega) m' q3 (by omega) c2' wC (c3.wv wvB) (WZ.wf c3 (WZ.fc b2 (by omega) zA)) c4 sgC none (some (.inr (.inl (lN m')))) none
        have inside : ∀ x, n ≤ x → x ≤ m' - 1 → wP v i 1 lo hi x := fun x h1 h2 => by
          by_cases e : x = n
          · rw [e]; exact x3
          · apply Classical.byContradiction
            intro z
            exact y4 x (by omega) (by omega) (wP_01.mpr z)
        have m1 : m' - 1 + 1 = m' := by omega
        have stp : ((q_fR A 11 1 6).bind fun r5 => r5.bind fun a6 => (q_sel A [(7, 54)] a6).bind fun y7 => (q_rV (q_CL y7 [.inr (.inr (some a6)), .inr (.inl (rL (some n))), .inr (.inl (rL (some m') - (lN 1)))] A)).bind fun M8 => (q_fR M8 11 1 4).bind fun r9 => r9.bind fun a10 => (q_sel M8 [(10, 75)] a10).bind fun y11 => (q_rL (q_CL y11 [.inr (.inr (some a10)), .inl (nI 1)] M8)).bind fun q12 => q_RL T_X11_gatherSpans (27, [some (.inr (.inr (some 1))), some (.inr (.inr (some o))), some (.inr (.inl q12.1)), none, some (.inl (nI k + 1)), some (.inr (.inl (rL (some m')))), none], [], q12.2)) = q_RL T_X11_gatherSpans (27, [some (.inr (.inr (some 1))), some (.inr (.inr (some o))), some (.inr (.inl (rL q3))), none, some (.inl (nI (k + 1))), some (.inr (.inl (lN m'))), none], [], C) := by
          simp only [c_now hA (show (1, 6, 42) ∈ q_crs by decide), Option.bind_some, y_sel hA (show 42 < 63 by omega) (show q_tgs.getD 42 0 = 7 from rfl), show rL (some n) = lN n from rfl, show rL (some m') = lN m' from rfl, lN_sub (show 1 ≤ m' by omega), b1, z_rV, c_now hB (show (1, 4, 25) ∈ q_crs by decide), w_sel hB, c1, z_rL, nI_1]
        rw [stp]
        refine ⟨(n, m' - 1) :: l2, D, ⟨x1, by omega, by omega, x4, inside, fun _ => by rw [m1]; exact nm, by rw [m1]; exact e1⟩, (((a3.1.wk fun a z => Or.inl z).tr (b2.wk fun a z => Or.inr z)).tr (c3.1.wk fun a z => Or.inl z)).tr e2, e3, ?_⟩
        rcases e4 with ⟨u1, u2, u3⟩ | ⟨u1, u2⟩
        · refine Or.inl ⟨by simp only [List.length_cons]; omega, u2, ?_⟩
          rw [List.append_assoc] at u3
          exact u3
        · exact Or.inr ⟨by simp only [List.length_cons]; omega, u2⟩
/-- the spans that are told -/
def TL (M : q_M) (b : Nat) (v : Nat → Nat) : Prop := SpV M (b + 4) (b + 5) (b + 6) (v 55) (v 56) (fun k => v (57 + 2 * k)) (fun k => v (57 + 2 * k + 1))
def tls (a : Nat) : Prop := gsp a ∨ (6 ≤ a ∧ a ≤ 8)
theorem K_spans_no {v : Nat → Nat} (wc : WC v) {M : q_M} (h : SH M) (c : CS M 2 v) (wz : WZ M) {w : Nat → Int32} (cr : CR M 2 w) {x : Int32} (n : ¬ (∃ i, i < v 0 ∧ x = nI i ∧ ∃ lo hi, isW v i w lo hi)) : ∃ M1, q_CL 104 [.inr (.inr (some 1)), .inl x] M = some (some (.inl (-1)), M1) ∧ FC wsc M M1 ∧ WZ M1 := by
  rw [C_X11_spans]
  simp only [c_sel h, Option.bind_some]
  by_cases hx : ∃ i, i < v 0 ∧ x = nI i
  · obtain ⟨i, hi, rfl⟩ := hx
    obtain ⟨o, o1, o2⟩ := K_cA wc h c hi
    rw [o1]
    simp only [z_rR, Option.bind_some, c_sel h]
    rcases K_eW (wc.2 i hi) h wz cr o2 with ⟨lo, hi', M1, z, _⟩ | ⟨_, M1, e, f, z⟩
    · exact absurd ⟨i, hi, rfl, lo, hi', z⟩ n
    · refine ⟨M1, ?_, f, z⟩
      rw [e]; rfl
  · refine ⟨M, ?_, FC.rf _ M, wz⟩
    rw [K_cA_no wc h c hx]
    simp only [z_rR, Option.bind_some, c_sel h, K_eW0, z_rI]
    rfl
theorem spL_cg {P Q : Nat → Prop} {S : Nat} (h : ∀ n, n < S → (P n ↔ Q n)) : ∀ (l : List (Nat × Nat)) (f : Nat), spL P S f l → spL Q S f l
  | [], f, x => fun n h1 h2 z => x n h1 h2 ((h n h2).mpr z)
  | (a, b) :: t, f, x => ⟨x.1, x.2.1, x.2.2.1, fun n h1 h2 z => x.2.2.2.1 n h1 h2 ((h n (by have := x.2.1; have := x.2.2.1; omega)).mpr z), fun n h1 h2 => (h n (by have := x.2.2.1; omega)).mp (x.2.2.2.2.1 n h1 h2), fun h1 z => x.2.2.2.2.2.1 h1 ((h _ h1).mpr z), spL_cg h t _ x.2.2.2.2.2.2⟩
theorem volW_cg {lo hi lo' hi' : Nat → Nat} : ∀ a, (∀ x, x < a → lo' x = lo x ∧ hi' x = hi x) → volW lo' hi' a = volW lo hi a
  | 0, _ => rfl
  | a + 1, e => by
    show volW lo' hi' a * _ = volW lo hi a * _
    rw [volW_cg a fun x hx => e x (by omega), (e a (by omega)).1, (e a (by omega)).2]
theorem K_spans {v : Nat → Nat} (wc : WC v) {M : q_M} (h : SH M) (c : CS M 2 v) (wz : WZ M) {w : Nat → Int32} (cr : CR M 2 w) {i : Nat} (hi : i < v 0) {lo hh : Nat → Nat} (hw : isW v i w lo hh) {l : List (Nat × Nat)} (sl : spL (wP v i 1 lo hh) (cS v i) 0 l) : (l.length ≤ 200 → ∃ M1, q_CL 104 [.inr (.inr (some 1)), .inl (nI i)] M = some (some (.inl (nI l.length)), M1) ∧ FC tls M M1 ∧ WZ M1 ∧ TL M1 2 (spW v l (volW lo hh 3) (2 * l.length))) ∧ (200 < l.length → ∃ M1, q_CL 104 [.inr (.inr (some 1)), .inl (nI i)] M = some (some (.inl (-2)), M1) ∧ FC gsp M M1 ∧ WZ M1) := by
  have hc := wc.2 i hi
  have c62 := cS_62 hc
  have S1 : 1 ≤ cS v i := by rw [← okI_S hc]; exact Nat.pow_pos (by have := cB_2 (cK v i); omega)
  obtain ⟨o, o1, o2⟩ := K_cA wc h c hi
  rcases K_eW hc h wz cr o2 with ⟨lo', hi', A, z, e, f, wk, wd, wv⟩ | ⟨n, _⟩
  rotate_left
  · exact absurd ⟨lo, hh, hw⟩ n
  have eW := isW_u hc hw z
  have hA := wk.1
  have iw := isW_h hc z
  -- gather
  have vol := K_volW hA wv iw
  have fB : FC (fun x => x = 42) A (stL (stI A 42 2 (nI 0)) 42 3 (lN (volW lo' hi' 3))) := ((FC.rf (fun x => x = 42) A).sI rfl).sL rfl
  have hB : SH (stL (stI A 42 2 (nI 0)) 42 3 (lN (volW lo' hi' 3))) := hA
  have eB : ∀ x k, x < 42 → gI (stL (stI A 42 2 (nI 0)) 42 3 (lN (volW lo' hi' 3))) x k = gI A x k ∧ gL (stL (stI A 42 2 (nI 0)) 42 3 (lN (volW lo' hi' 3))) x k = gL A x k ∧ gR (stL (stI A 42 2 (nI 0)) 42 3 (lN (volW lo' hi' 3))) x k = gR A x k := fun x k hx => fB.2.2.2.1 x k (by omega)
  have wB : WK (stL (stI A 42 2 (nI 0)) 42 3 (lN (volW lo' hi' 3))) o (cK v i) (cD v i) (cL v i) i := ⟨hB, wk.2.1.fc fB (fun a z => by omega), (eB 25 7 (by omega)).2.2.trans wk.2.2.1, (eB 25 8 (by omega)).1.trans wk.2.2.2⟩
  have wvB : WV (stL (stI A 42 2 (nI 0)) 42 3 (lN (volW lo' hi' 3))) lo' hi' := fun a ha => ⟨(eB 37 a (by omega)).1.trans (wv a ha).1, (eB 38 a (by omega)).1.trans (wv a ha).2⟩
  have wdB : WD (stL (stI A 42 2 (nI 0)) 42 3 (lN (volW lo' hi' 3))) (cmI v i) 0 0 := ⟨fun a ha => ⟨(eB _ _ (by omega)).1.trans (wd.1 a ha).1, (eB _ _ (by omega)).1.trans (wd.1 a ha).2⟩, (eB 34 0 (by omega)).1.trans wd.2.1, (eB 35 0 (by omega)).2.1.trans wd.2.2⟩
  have sgB : SG (stL (stI A 42 2 (nI 0)) 42 3 (lN (volW lo' hi' 3))) [] (volW lo' hi' 3) := ⟨by rw [gI_stL, gI_self]; rfl, gL_self, fun k hk => absurd hk (Nat.not_lt_zero k)⟩
  have beg : q_CL 53 [.inr (.inr (some 42)), .inr (.inl (lN (volW lo' hi' 3)))] A = some (none, stL (stI A 42 2 (nI 0)) 42 3 (lN (volW lo' hi' 3))) := by
    have hA2 : SH (stI A 42 2 (nI 0)) := hA
    rw [C_X7_begin]
    simp only [y_sI hA (show 42 < 63 by omega) (show q_isT 7 (q_tgs.getD 42 0) = true from rfl), Option.bind_some, y_sL hA2 (show 42 < 63 by omega) (show q_isT 7 (q_tgs.getD 42 0) = true from rfl)]
  generalize stL (stI A 42 2 (nI 0)) 42 3 (lN (volW lo' hi' 3)) = B at *
  obtain ⟨q, C, c1, c2, c3, c4⟩ := K_seek (c := o) (i := i) hc.1 (o := 1) (Or.inr rfl) iw wB wvB wdB (f := 0) (by rw [okI_S hc]; omega) (by rw [okI_S hc]; omega)
  rw [okI_S hc] at c2
  have sgC : SG C [] (volW lo' hi' 3) := by
    obtain ⟨g1, g2, g3⟩ := sgB
    have e : ∀ x k, 42 ≤ x ∧ x ≤ 44 → gI C x k = gI B x k ∧ gL C x k = gL B x k ∧ gR C x k = gR B x k := fun x k hx => c3.1.2.2.2.1 x k (by unfold wsc; omega)
    exact ⟨(e 42 2 (by omega)).1.trans g1, (e 42 3 (by omega)).2.1.trans g2, fun k hk => ⟨(e 43 k (by omega)).2.1.trans (g3 k hk).1, (e 44 k (by omega)).2.1.trans (g3 k hk).2⟩⟩
  obtain ⟨l2, D, d1, d2, d3, d4⟩ := K_ga27 hc (o := o) iw (pl := volW lo' hi' 3) 200 0 (by omega) [] rfl 0 q (by omega) c2 (c3.wk wB) (c3.wv wvB) (WZ.wd (c3.w0 wdB)) c4 sgC none none none
  have el : l2 = l := spL_uniq l2 l 0 (spL_cg (fun n _ => wP_w eW n) l2 0 d1) sl
  subst el
  have ev : volW lo' hi' 3 = volW lo hh 3 := volW_cg 3 eW
  have fD : FC gsp M D := (((f.wk fun a z => Or.inl z).tr (fB.wk fun a z => Or.inr (by omega))).tr (c3.1.wk fun a z => Or.inl z)).tr d2
  have gat : ∀ R, q_RL T_X11_gatherSpans (27, [some (.inr (.inr (some 1))), some (.inr (.inr (some o))), some (.inr (.inl (rL q))), none, some (.inl (nI 0)), none, none], [], C) = some (some (.inl (nI R)), D) → q_CL 110 [.inr (.inr (some 1)), .inr (.inr (some o))] A = some (some (.inl (nI R)), D) := fun R z => by
    rw [C_X11_gatherSpans]
    simp only [c_now hA (show (1, 6, 42) ∈ q_crs by decide), c_now hA (show (1, 4, 25) ∈ q_crs by decide), Option.bind_some, w_sel hA, vol, z_rL, y_sel hA (show 42 < 63 by omega) (show q_tgs.getD 42 0 = 7 from rfl), beg, z_rV, c_now hB (show (1, 4, 25) ∈ q_crs by decide), w_sel hB, c1]
    exact z
  rw [C_X11_spans]
  simp only [c_sel h, Option.bind_some, o1, z_rR, e, z_rI]
  rw [if_neg (show ¬ nI 1 = 0 by decide +kernel)]
  simp only [c_sel hA, Option.bind_some]
  refine ⟨fun hl => ?_, fun hl => ?_⟩
  · rcases d4 with ⟨_, u2, u3⟩ | ⟨u1, _⟩
    rotate_left
    · omega
    rw [List.nil_append] at u3
    have hD := fD.sh h
    obtain ⟨E, g1, g2, g3, g4⟩ := K_spCopy (told_o hD) (spare_o hD) u3 hl (by omega)
    have hE := g2.sh hD
    refine ⟨E, ?_, (fD.wk fun a z => Or.inl z).tr (g2.wk fun a z => Or.inr (by omega)), WZ.fc g2 (by omega) d3, ?_⟩
    · rw [gat 1 u2]
      simp only [z_rI, Option.bind_some]
      rw [if_neg (show ¬ nI 1 = 0 by decide +kernel)]
      simp only [c_now hD (show (1, 0, 2) ∈ q_crs by decide), s_now hD (show (2, 4, 6) ∈ q_crs by decide), c_now hD (show (1, 6, 42) ∈ q_crs by decide), Option.bind_some, y_sel hD (show 6 < 63 by omega) (show q_tgs.getD 6 0 = 7 from rfl), g1, z_rV, c_now hE (show (1, 0, 2) ∈ q_crs by decide), s_now hE (show (2, 4, 6) ∈ q_crs by decide), y_fI hE (show 6 < 63 by omega) (show q_isT 7 (q_tgs.getD 6 0) = true from rfl), g4.1]
    · obtain ⟨k1, k2, k3⟩ := g4
      have e5 : spW v l2 (volW lo hh 3) (2 * l2.length) 55 = l2.length := if_pos rfl
      have e6 : spW v l2 (volW lo hh 3) (2 * l2.length) 56 = volW lo hh 3 := by unfold spW; rw [if_neg (by omega), if_pos rfl]
      unfold TL SpV
      rw [e5, e6]
      refine ⟨k1, by rw [← ev]; exact k2, fun k hk => ?_⟩
      have a1 : spW v l2 (volW lo hh 3) (2 * l2.length) (57 + 2 * k) = (l2.getD k (0, 0)).1 := by
        unfold spW
        rw [if_neg (by omega), if_neg (by omega), if_pos (by omega)]
        unfold flt
        rw [if_pos (by omega), show (57 + 2 * k - 57) / 2 = k by omega]
      have a2 : spW v l2 (volW lo hh 3) (2 * l2.length) (57 + 2 * k + 1) = (l2.getD k (0, 0)).2 := by
        unfold spW
        rw [if_neg (by omega), if_neg (by omega), if_pos (by omega)]
        unfold flt
        rw [if_neg (by omega), show (57 + 2 * k + 1 - 57) / 2 = k by omega]
      show gL E 7 k = lN (spW v l2 (volW lo hh 3) (2 * l2.length) (57 + 2 * k)) ∧ gL E 8 k = lN (spW v l2 (volW lo hh 3) (2 * l2.length) (57 + 2 * k + 1))
      rw [a1, a2]
      exact k3 k hk
  · rcases d4 with ⟨u1, _, _⟩ | ⟨_, u2⟩
    · omega
    refine ⟨D, ?_, fD, d3⟩
    rw [gat 0 u2]
    simp only [z_rI, Option.bind_some]
    rw [if_pos nI_0]
