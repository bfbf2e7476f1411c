/-! ===== STEPS THAT MAKE CELLS, CALLS ===== -/
theorem q_sized {p : Program} {l : Launch} {e : Env} {R : Room} {s : State} {m : MethodId} {args : Array Value} {below : List Frame} {meth : Method} {c : Code} {H : Heap} {locs : List Loc} {cells slots : Nat} {Q : State → Prop} {g : JFrame} (k : H.size ≤ s.heap.size + cells → W p l e R s m args below meth c H locs cells slots Q g) : W p l e R s m args below meth c H locs cells slots Q g := by
  intro T hT X
  have h := X.heapSize
  rw [hT] at h
  exact k h T hT X
theorem q_In.size {G : q_G} {L : Nat} {xs : Nat → Int32} {M : q_M} {H : Heap} {s : State} {locs : List Loc} {cells : Nat} (h : q_In G L xs M H) (hS : va_S (q_A G) s.heap H locs) (hG : G.1.2 ≤ s.heap.size) (hz : s.heap.size + cells = G.1.2 + (M.2.2.2.2.2.1 - 1)) (hc : H.size ≤ s.heap.size + cells) : H.size = G.1.2 + (M.2.2.2.2.2.1 - 1) := by
  have h1 := hS.1
  rcases Nat.lt_or_ge M.2.2.2.2.2.1 2 with q | q
  · omega
  · have h2 := h.2.1.2.2.1 (M.2.2.2.2.2.1 - 1) (by omega) (by omega)
    have h3 := (h.1 _ _ (h.at h2)).lt
    have h4 : q_ad G (M.2.2.2.2.2.1 - 1) < H.size := h3
    rw [q_ad_of G (by omega)] at h4
    omega
theorem q_born_mo {M : q_M} {t n : Nat} (h : q_mo M) (ht : t ≤ 22) : q_mo (q_born M t n) := by
  obtain ⟨h1, h2, h3, h4⟩ := h
  refine ⟨?_, ?_, fun a g1 g2 => ?_, fun a g1 => ?_⟩
  · show 1 ≤ M.2.2.2.2.2.1 + 1
    omega
  · show va_up M.1 M.2.2.2.2.2.1 t 0 = 23
    rw [va_up_ne _ _ (by omega)]
    exact h2
  · show va_up M.1 M.2.2.2.2.2.1 t a ≤ 22
    have g2 : a < M.2.2.2.2.2.1 + 1 := g2
    by_cases e : a = M.2.2.2.2.2.1
    · rw [e, va_up_self]
      exact ht
    · rw [va_up_ne _ _ e]
      exact h3 a g1 (by omega)
  · show 24 ≤ va_up M.1 M.2.2.2.2.2.1 t a
    have g1 : M.2.2.2.2.2.1 + 1 ≤ a := g1
    rw [va_up_ne _ _ (by omega)]
    exact h4 a (by omega)
theorem q_In.push {G : q_G} {L : Nat} {xs : Nat → Int32} {M : q_M} {H H1 : Heap} {E : va_E} {q t n N : Nat} (h : q_In G L xs M H) (ht : t ≤ 22) (hP : va_P G.2.1 q_cl (q_ws G M ++ [(q, E)]) H1) (hD : va_D (q_A G) (q_ws G M ++ [(q, E)])) (hz : N = G.1.2 + (M.2.2.2.2.2.1 - 1)) (hc : H1.size ≤ N + 1) (hE : q_cell G (q_born M t n) M.2.2.2.2.2.1 = E) : q = q_ad G M.2.2.2.2.2.1 ∧ q_In G L xs (q_born M t n) H1 := by
  have hm := h.2.1
  have hlen := q_ws_len G M
  have hat : (q_ws G M ++ [(q, E)])[(q_ws G M).length]? = some (q, E) := by simp
  have h1 : q < H1.size := (hP _ _ hat).lt
  have h2 : G.1.2 ≤ q := hD.2 _ _ hat
  have h3 : ∀ i, i < M.2.2.2.2.2.1 - 1 → q ≠ G.1.2 + i := by
    intro i hi e
    have ha : (q_ws G M ++ [(q, E)])[i]? = some (G.1.2 + i, q_cell G M (i + 1)) := by
      rw [List.getElem?_append_left (by omega)]
      unfold q_ws
      rw [List.getElem?_map, List.getElem?_range hi]
      rfl
    have := hD.1 _ _ _ _ ha hat e.symm
    omega
  have hq : q = G.1.2 + (M.2.2.2.2.2.1 - 1) := by
    rcases Nat.lt_or_ge q (G.1.2 + (M.2.2.2.2.2.1 - 1)) with g | g
    · exact absurd (show q = G.1.2 + (q - G.1.2) by omega) (h3 (q - G.1.2) (by omega))
    · omega
  refine ⟨by rw [hq, q_ad_of G hm.1], ?_, q_born_mo hm ht, ?_, ?_⟩
  · rw [q_ws_push (M := M) hm.1 rfl (fun i hi => q_cell_eq (va_up_ne _ _ (by omega)) (va_up_ne _ _ (by omega)) (va_up_ne _ _ (by omega)) (va_up_ne _ _ (by omega)) (va_up_ne _ _ (by omega))), hE, ← hq]
    exact hP
  · show va_up M.2.1 M.2.2.2.2.2.1 n 0 = L
    rw [va_up_ne _ _ (by have := hm.1; omega)]
    exact h.2.2.1
  · show va_up M.2.2.1 M.2.2.2.2.2.1 _ 0 = xs
    rw [va_up_ne _ _ (by have := hm.1; omega)]
    exact h.2.2.2
def q_dv (d : Nat) : Value := match d with
  | 1 => .int 0
  | 2 => .long 0
  | _ => .null
theorem q_dvt : ∀ t, t < 13 → ∀ k, k < q_nf t → defaultValue (q_ty t k) = q_dv (q_kd (q_ty t k)) := q_13 (by decide +kernel) (by decide +kernel) (by decide +kernel) (by decide +kernel) (by decide +kernel) (by decide +kernel) (by decide +kernel) (by decide +kernel) (by decide +kernel) (by decide +kernel) (by decide +kernel) (by decide +kernel) (by decide +kernel)
def q_Nl (own : String) (idx t : Nat) : Prop := t < 13 ∧ Cond.classLink own idx (q_R1 t) ∈ q_wt ∧ Cond.instantiable (q_R1 t) (q_nf t) ∈ q_wt ∧ Cond.initialized (q_R1 t) ∈ q_wt
section QN
variable {l : Launch} {G : q_G} {L : Nat} {xs : Nat → Int32} {y : MethodName} {bytes : ByteArray} {fr lo : Nat} {pc : Nat} {ls : q_L} {st : List q_V} {M : q_M} {M1 : q_M}
theorem q_new_some {t n : Nat} (h : q_new M t n = some M1) : M1 = q_born M t n ∧ M.2.2.2.2.2.1 ≤ 600000 ∧ M.2.2.2.2.2.2 + n ≤ 7302250 := by
  unfold q_new at h
  split at h
  · rename_i hh
    cases h
    exact ⟨rfl, hh⟩
  · cases h
theorem q_dn {t n : Nat} : (q_born M t n).2.2.2.2.2.1 - M.2.2.2.2.2.1 = 1 ∧ (q_born M t n).2.2.2.2.2.2 - M.2.2.2.2.2.2 = n := by
  show M.2.2.2.2.2.1 + 1 - M.2.2.2.2.2.1 = 1 ∧ M.2.2.2.2.2.2 + n - M.2.2.2.2.2.2 = n
  omega
theorem q_r_new (hw : q_Fw) {idx t : Nat} (hd : decode bytes pc = .ok (.new idx, 3)) (hf : q_Nl y.cls idx t) (h : q_new M t (q_nf t) = some M1) : q_Re l G L xs y bytes fr lo pc ls st M (pc + 3) ls (.inr (.inr (some M.2.2.2.2.2.1)) :: st) M1 := by
  intro p e R s m args below meth c X hfr hlo H locs cells slots Q lsA hl hI hS hz h1 h2 k
  obtain ⟨rfl, b1, b2⟩ := q_new_some h
  rw [q_dn.1, q_dn.2] at *
  obtain ⟨g1, g2, g3, g4⟩ := hf
  have hbt : (q_born M t (q_nf t)).1 M.2.2.2.2.2.1 = t := va_up_self _ _ _
  have hE : q_cell G (q_born M t (q_nf t)) M.2.2.2.2.2.1 = .inr (t, q_fs G (q_born M t (q_nf t)) M.2.2.2.2.2.1 t) := by
    rw [q_cell_o (by rw [hbt]; exact g1), hbt]
  have hfs : ∀ j, j < q_nf t → defaultValue (q_ty t j) = vp_V (q_fs G (q_born M t (q_nf t)) M.2.2.2.2.2.1 t) j := by
    intro j hj
    unfold vp_V
    rw [List.getD_eq_getElem?_getD, q_fs_at hj, q_dvt t g1 j hj]
    simp only [Option.getD_some]
    generalize q_kd (q_ty t j) = d
    have hi : (q_born M t (q_nf t)).2.2.1 M.2.2.2.2.2.1 = fun _ => 0 := va_up_self _ _ _
    have hl2 : (q_born M t (q_nf t)).2.2.2.1 M.2.2.2.2.2.1 = fun _ => 0 := va_up_self _ _ _
    have hr2 : (q_born M t (q_nf t)).2.2.2.2.1 M.2.2.2.2.2.1 = fun _ => none := va_up_self _ _ _
    unfold q_fv
    rw [hi, hl2, hr2]
    match d with
    | 0 => rfl
    | 1 => rfl
    | 2 => rfl
    | n + 3 => rfl
  refine va_new (own := y.cls) (ci := t) X.1 X.2.1 X.2.2.2.2.1 (hw t g1) (q_ty t) (q_tyt t g1) X.2.2.2.1 (X.2.2.2.2.1 _ g2) (X.2.2.2.2.1 _ g3) (X.2.2.2.2.1 _ g4) X.2.2.2.2.2.2.1 hI.1 (q_ws_D G M) hS (fun q h => Nat.le_trans X.2.2.2.2.2.2.2.2.2.2 h) (q_clt t g1) hfs h1 h2 hd fun q H1 hP1 hD1 hS1 => q_sized fun hc => ?_
  obtain ⟨hq, hI1⟩ := hI.push (t := t) (n := q_nf t) (N := s.heap.size + cells) (by omega) hP1 hD1 hz (by omega) hE
  rw [hq]
  exact k H1 locs lsA hl hI1 hS1
theorem q_aRA {s : State} {t : Nat} {cA : ClassId} (hK : va_K G.2.1 q_cl (q_tys G) s) (h1 : 13 ≤ t) (h2 : t ≤ 22) (h : va_RA s cA (q_aty t)) : cA = G.2.2 t := by
  have h3 := (hK.2 _ _ (q_tyq G t h1 h2)).2
  rcases (show t = 13 ∨ t = 14 ∨ t = 15 ∨ t = 16 ∨ t = 17 ∨ t = 18 ∨ t = 19 ∨ t = 20 ∨ t = 21 ∨ t = 22 by omega) with rfl | rfl | rfl | rfl | rfl | rfl | rfl | rfl | rfl | rfl
  · exact Option.some.inj (Eq.trans (Eq.symm h) h3)
  · exact Option.some.inj (Eq.trans (Eq.symm h) h3)
  · exact Option.some.inj (Eq.trans (Eq.symm h) h3)
  · exact Option.some.inj (Eq.trans (Eq.symm h) h3)
  · obtain ⟨_, _, -, -, -, e1⟩ := h
    obtain ⟨_, _, -, -, -, e2⟩ := h3
    exact Option.some.inj (e1.symm.trans e2)
  · obtain ⟨_, _, -, -, -, e1⟩ := h
    obtain ⟨_, _, -, -, -, e2⟩ := h3
    exact Option.some.inj (e1.symm.trans e2)
  · obtain ⟨_, _, -, -, -, e1⟩ := h
    obtain ⟨_, _, -, -, -, e2⟩ := h3
    exact Option.some.inj (e1.symm.trans e2)
  · obtain ⟨_, _, -, -, -, e1⟩ := h
    obtain ⟨_, _, -, -, -, e2⟩ := h3
    exact Option.some.inj (e1.symm.trans e2)
  · obtain ⟨_, _, -, -, -, e1⟩ := h
    obtain ⟨_, _, -, -, -, e2⟩ := h3
    exact Option.some.inj (e1.symm.trans e2)
  · exact Option.some.inj (Eq.trans (Eq.symm h) h3)
theorem q_newA_some {t : Nat} {n : Int32} (h : q_newA M t n = some M1) : 0 ≤ n ∧ q_new M t n.toNatClampNeg = some M1 := by
  unfold q_newA at h
  split at h
  · rename_i hh
    exact ⟨hh, h⟩
  · cases h
def q_at0 (t n : Nat) : vp_A := match t with
  | 15 => (n, .inr (.inl fun _ => 0))
  | _ => (n, .inl fun _ => 0)
theorem q_born_cell {t n : Nat} (h1 : 13 ≤ t) (h2 : t ≤ 16) : q_cell G (q_born M t n) M.2.2.2.2.2.1 = .inl (G.2.2 t, q_at0 t n) := by
  have hbt : (q_born M t n).1 M.2.2.2.2.2.1 = t := va_up_self _ _ _
  have hbl : (q_born M t n).2.1 M.2.2.2.2.2.1 = n := va_up_self _ _ _
  have hbi : (q_born M t n).2.2.1 M.2.2.2.2.2.1 = fun _ => 0 := va_up_self _ _ _
  have hbL : (q_born M t n).2.2.2.1 M.2.2.2.2.2.1 = fun _ => 0 := va_up_self _ _ _
  by_cases e : t = 15
  · subst e
    rw [q_cell_l hbt, hbl, hbL]
    rfl
  · rw [q_cell_i (by omega) (by omega) (by omega), hbt, hbl, hbi]
    rcases (show t = 13 ∨ t = 14 ∨ t = 16 by omega) with rfl | rfl | rfl <;> rfl
theorem q_r_newa {t : Nat} {at_ : ArrayType} {n : Int32} (hd : decode bytes pc = .ok (.newarray at_, 2)) (ht : 13 ≤ t ∧ t ≤ 16 ∧ newarray.typeOf at_ = q_aty t) (hf : Cond.arrayClass (q_aty t) ∈ q_wt) (h : q_newA M t n = some M1) : q_Re l G L xs y bytes fr lo pc ls (.inl n :: st) M (pc + 2) ls (.inr (.inr (some M.2.2.2.2.2.1)) :: st) M1 := by
  intro p e R s m args below meth c X hfr hlo H locs cells slots Q lsA hl hI hS hz h1 h2 k
  obtain ⟨b0, h⟩ := q_newA_some h
  obtain ⟨rfl, b1, b2⟩ := q_new_some h
  rw [q_dn.1, q_dn.2] at *
  obtain ⟨g1, g2, g3⟩ := ht
  have ha : ∀ cA : ClassId, vp_cell cA (q_at0 t n.toNatClampNeg) = arrV cA n.toNatClampNeg (fun _ => defaultValue (q_aty t)) := by
    intro cA
    rcases (show t = 13 ∨ t = 14 ∨ t = 15 ∨ t = 16 by omega) with rfl | rfl | rfl | rfl <;> rfl
  have hcb : componentBytes (q_aty t) ≤ 8 := by
    rcases (show t = 13 ∨ t = 14 ∨ t = 15 ∨ t = 16 by omega) with rfl | rfl | rfl | rfl <;> decide
  have hby : n.toNatClampNeg * componentBytes (q_aty t) ≤ 536870912 := by
    have := Nat.mul_le_mul_left n.toNatClampNeg hcb
    omega
  refine va_newa X.1 X.2.1 (by rw [g3]; exact X.2.2.2.2.1 _ hf) g3 X.2.2.2.2.2.2.1 hI.1 (q_ws_D G M) hS (fun q h => Nat.le_trans X.2.2.2.2.2.2.2.2.2.2 h) ha (q_n0 b0) rfl hby h1 h2 hd fun q cA H1 hK1 hP1 hD1 hS1 => q_sized fun hc => ?_
  have hcA : cA = G.2.2 t := q_aRA X.2.2.2.2.2.2.1 g1 (by omega) (hK1.2 (q_tys G).length (cA, q_aty t) (by simp)).2
  rw [hcA] at hP1 hD1
  obtain ⟨hq, hI1⟩ := hI.push (t := t) (n := n.toNatClampNeg) (N := s.heap.size + cells) (by omega) hP1 hD1 hz (by omega) (q_born_cell g1 g2)
  rw [hq]
  exact k H1 locs lsA hl hI1 hS1
theorem q_r_anew {t idx : Nat} {n : Int32} {C : String} (hd : decode bytes pc = .ok (.anewarray idx, 3)) (ht : 17 ≤ t ∧ t ≤ 21 ∧ q_aty t = .object C) (hf : Cond.classLink y.cls idx C ∈ q_wt ∧ Cond.arrayOver (.object C) ∈ q_wt) (h : q_newA M t n = some M1) : q_Re l G L xs y bytes fr lo pc ls (.inl n :: st) M (pc + 3) ls (.inr (.inr (some M.2.2.2.2.2.1)) :: st) M1 := by
  intro p e R s m args below meth c X hfr hlo H locs cells slots Q lsA hl hI hS hz h1 h2 k
  obtain ⟨b0, h⟩ := q_newA_some h
  obtain ⟨rfl, b1, b2⟩ := q_new_some h
  rw [q_dn.1, q_dn.2] at *
  obtain ⟨g1, g2, g3⟩ := ht
  have hE : q_cell G (q_born M t n.toNatClampNeg) M.2.2.2.2.2.1 = .inl (G.2.2 t, n.toNatClampNeg, .inr (.inr (.inr (.inr fun _ => none)))) := by
    have hbt : (q_born M t n.toNatClampNeg).1 M.2.2.2.2.2.1 = t := va_up_self _ _ _
    have hbl : (q_born M t n.toNatClampNeg).2.1 M.2.2.2.2.2.1 = n.toNatClampNeg := va_up_self _ _ _
    have hbr : (q_born M t n.toNatClampNeg).2.2.2.2.1 M.2.2.2.2.2.1 = fun _ => none := va_up_self _ _ _
    rw [q_cell_r (by omega), hbt, hbl, hbr]
    rfl
  refine va_newq (own := y.cls) X.1 X.2.1 X.2.2.2.1 (X.2.2.2.2.1 _ hf.1) (va_AO.of (X.2.2.2.2.1 _ hf.2)) X.2.2.2.2.2.2.1 hI.1 (q_ws_D G M) hS (fun q h => Nat.le_trans X.2.2.2.2.2.2.2.2.2.2 h) (q_n0 b0) rfl (by omega) h1 h2 hd fun q cA H1 hK1 hP1 hD1 hS1 => q_sized fun hc => ?_
  have hcA : cA = G.2.2 t := q_aRA X.2.2.2.2.2.2.1 (by omega) (by omega) (by rw [g3]; exact (hK1.2 (q_tys G).length (cA, .object C) (by simp)).2)
  rw [hcA] at hP1 hD1
  obtain ⟨hq, hI1⟩ := hI.push (t := t) (n := n.toNatClampNeg) (N := s.heap.size + cells) (by omega) hP1 hD1 hz (by omega) hE
  rw [hq]
  exact k H1 locs lsA hl hI1 hS1
theorem q_cats_sum (G : q_G) : ∀ (st : List q_V), ((st.map (q_vv G)).map fun v => v.category).sum = q_cats st
  | [] => rfl
  | .inl x :: r => by simp only [List.map_cons, List.sum_cons, q_cats, q_cats_sum G r]; rfl
  | .inr (.inl x) :: r => by simp only [List.map_cons, List.sum_cons, q_cats, q_cats_sum G r]; rfl
  | .inr (.inr none) :: r => by simp only [List.map_cons, List.sum_cons, q_cats, q_cats_sum G r]; rfl
  | .inr (.inr (some a)) :: r => by simp only [List.map_cons, List.sum_cons, q_cats, q_cats_sum G r]; rfl
theorem q_r_obj {idx a : Nat} (hd : decode bytes pc = .ok (.invokespecial idx, 3)) (h1 : Cond.methodLink y.cls idx objectInit ∈ q_wt) (h2 : Cond.instanceMethod objectInit ∈ q_wt) (h3 : Cond.code objectInit ⟨#[0xb1]⟩ 1 none ∈ q_wt) (hc : q_cats st ≤ 8) (hf : 1 ≤ fr) (hL : 20 ≤ lo) : q_Re l G L xs y bytes fr lo pc ls (.inr (.inr (some a)) :: st) M (pc + 3) ls st M := by
  refine q_Re.top ?_
  intro p e R s m args below meth c X hfr hlo H locs cells slots Q lsA hl hI hS kk
  refine W.objInit X.1 X.2.1 X.2.2.2.1 (X.2.2.2.2.1 _ h1) (X.2.2.2.2.1 _ h2) (X.2.2.2.2.1 _ h3) rfl (hl.1.trans X.2.2.1.symm) rfl hd (by omega) ?_ kk
  show 2 * 0 + ((st.map (q_vv G)).map fun v => v.category).sum + 12 ≤ R.locals
  rw [q_cats_sum]
  omega
theorem q_r_copy {idx a b : Nat} {sp dp n : Int32} (hd : decode bytes pc = .ok (.invokestatic idx, 3)) (h1 : Cond.methodLink y.cls idx arraycopyName ∈ q_wt) (h2 : Cond.native arraycopyName ∈ q_wt) (h3 : Cond.static arraycopyName ∈ q_wt) (h4 : Cond.initialized "java/lang/System" ∈ q_wt) (hc : q_cats st ≤ 8) (hf : 1 ≤ fr) (hL : 48 ≤ lo) (h : q_copy M a b sp dp n = some M1) : q_Re l G L xs y bytes fr lo pc ls (.inl n :: .inl dp :: .inr (.inr (some b)) :: .inl sp :: .inr (.inr (some a)) :: st) M (pc + 3) ls st M1 := by
  unfold q_copy at h
  split at h
  · rename_i hh
    obtain ⟨⟨p1, p2, p3⟩, p4, p5, p6⟩ := hh
    have hroom : ∀ R : Room, lo ≤ R.locals → ((st.map (q_vv G)).map fun v => v.category).sum + (nativeFrameWords "java/lang/System" "arraycopy" 5 + 11) ≤ R.locals := by
      intro R hR
      rw [q_cats_sum]
      have : nativeFrameWords "java/lang/System" "arraycopy" 5 + 11 ≤ 40 := by decide +kernel
      omega
    split at h
    · rename_i ht
      cases h
      refine q_Re.mem rfl rfl ?_
      intro p e R s m args below meth c X hfr hlo H locs cells slots Q lsA hl hI hS kk
      have ha := hI.at (a := a) (by omega)
      have hb := hI.at (a := b) (by omega)
      rw [q_cell_i (by omega) (by omega) (by omega), ht] at ha
      rw [q_cell_i (by omega) (by omega) (by omega), ← p6, ht] at hb
      refine va_copyi X.1 X.2.1 (X.2.2.1.trans hl.1.symm) X.2.2.2.1 (X.2.2.2.2.1 _ h1) (X.2.2.2.2.1 _ h2) (X.2.2.2.2.1 _ h3) (X.2.2.2.2.1 _ h4) X.2.2.2.2.2.2.1 hI.1 (q_ws_D G M) hS (a - 1) (b - 1) 1 1 (ty := .int) ha hb rfl rfl rfl (q_n0 p1) (q_n0 p2) (q_n0 p3) p4 p5 (fun _ _ => rfl) (by omega) (hroom R hlo) hd fun H1 locs1 hP1 hD1 hS1 => kk H1 locs1 (hI.set (a := b) (by omega) rfl rfl (fun i hi => va_up_ne _ _ hi) (fun _ _ => rfl) (fun _ _ => rfl) rfl ?_ hP1) hS1
      refine (q_cell_i ?_ ?_ ?_).trans ?_
      · show 13 ≤ M.1 b; omega
      · show M.1 b ≠ 15; omega
      · show M.1 b < 17; omega
      show Sum.inl (G.2.2 (M.1 b), M.2.1 b, Sum.inl (va_up M.2.2.1 b _ b)) = _
      rw [va_up_self, ← p6, ht]
    · split at h
      · rename_i ht0 ht
        cases h
        refine q_Re.mem rfl rfl ?_
        intro p e R s m args below meth c X hfr hlo H locs cells slots Q lsA hl hI hS kk
        have ha := hI.at (a := a) (by omega)
        have hb := hI.at (a := b) (by omega)
        rw [q_cell_l ht] at ha
        rw [q_cell_l (by omega)] at hb
        refine va_copyl X.1 X.2.1 (X.2.2.1.trans hl.1.symm) X.2.2.2.1 (X.2.2.2.2.1 _ h1) (X.2.2.2.2.1 _ h2) (X.2.2.2.2.1 _ h3) (X.2.2.2.2.1 _ h4) X.2.2.2.2.2.2.1 hI.1 (q_ws_D G M) hS (a - 1) (b - 1) 2 2 (ty := .long) ha hb rfl rfl rfl (q_n0 p1) (q_n0 p2) (q_n0 p3) p4 p5 (fun _ _ => rfl) (by omega) (hroom R hlo) hd fun H1 locs1 hP1 hD1 hS1 => kk H1 locs1 (hI.set (a := b) (by omega) rfl rfl (fun _ _ => rfl) (fun i hi => va_up_ne _ _ hi) (fun _ _ => rfl) rfl ?_ hP1) hS1
        refine (q_cell_l ?_).trans ?_
        · show M.1 b = 15; omega
        show Sum.inl (G.2.2 15, M.2.1 b, Sum.inr (Sum.inl (va_up M.2.2.2.1 b _ b))) = _
        rw [va_up_self]
      · cases h
  · cases h
theorem q_r_mmax {idx : Nat} {x z : Int32} (hd : decode bytes pc = .ok (.invokestatic idx, 3)) (h1 : Cond.methodLink y.cls idx Lib.Math.max.name ∈ q_wt) (h2 : Cond.static Lib.Math.max.name ∈ q_wt) (h3 : Cond.initialized "java/lang/Math" ∈ q_wt) (h4 : Cond.code Lib.Math.max.name Lib.Math.max.code 2 (some .int) ∈ q_wt) (hc : q_cats st ≤ 8) (hf : 1 ≤ fr) (hL : 24 ≤ lo) : q_Re l G L xs y bytes fr lo pc ls (.inl z :: .inl x :: st) M (pc + 3) ls (.inl (if x < z then z else x) :: st) M := by
  intro p e R s m args below meth c X hfr hlo H locs cells slots Q lsA hl hI hS hz c1 c2 k
  rw [Nat.sub_self] at c1 c2
  refine va_mmax X.1 X.2.1 (X.2.2.1.trans hl.1.symm) X.2.2.2.1 (X.2.2.2.2.1 _ h1) (X.2.2.2.2.1 _ h2) (X.2.2.2.2.1 _ h3) (X.2.2.2.2.1 _ h4) (by omega) (by rw [q_cats_sum]; omega) c1 c2 hd ?_
  have k1 := k H locs lsA hl hI hS
  rw [Nat.sub_self, Nat.sub_self] at k1
  exact k1
theorem q_r_mmin {idx : Nat} {x z : Int32} (hd : decode bytes pc = .ok (.invokestatic idx, 3)) (h1 : Cond.methodLink y.cls idx Lib.Math.min.name ∈ q_wt) (h2 : Cond.static Lib.Math.min.name ∈ q_wt) (h3 : Cond.initialized "java/lang/Math" ∈ q_wt) (h4 : Cond.code Lib.Math.min.name Lib.Math.min.code 2 (some .int) ∈ q_wt) (hc : q_cats st ≤ 8) (hf : 1 ≤ fr) (hL : 24 ≤ lo) : q_Re l G L xs y bytes fr lo pc ls (.inl z :: .inl x :: st) M (pc + 3) ls (.inl (if z < x then z else x) :: st) M := by
  intro p e R s m args below meth c X hfr hlo H locs cells slots Q lsA hl hI hS hz c1 c2 k
  rw [Nat.sub_self] at c1 c2
  refine va_mmin X.1 X.2.1 (X.2.2.1.trans hl.1.symm) X.2.2.2.1 (X.2.2.2.2.1 _ h1) (X.2.2.2.2.1 _ h2) (X.2.2.2.2.1 _ h3) (X.2.2.2.2.1 _ h4) (by omega) (by rw [q_cats_sum]; omega) c1 c2 hd ?_
  have k1 := k H locs lsA hl hI hS
  rw [Nat.sub_self, Nat.sub_self] at k1
  exact k1
theorem q_r_mabs {idx : Nat} {x : Int32} (hd : decode bytes pc = .ok (.invokestatic idx, 3)) (h1 : Cond.methodLink y.cls idx Lib.Math.abs.name ∈ q_wt) (h2 : Cond.static Lib.Math.abs.name ∈ q_wt) (h3 : Cond.initialized "java/lang/Math" ∈ q_wt) (h4 : Cond.code Lib.Math.abs.name Lib.Math.abs.code 1 (some .int) ∈ q_wt) (hc : q_cats st ≤ 8) (hf : 1 ≤ fr) (hL : 24 ≤ lo) : q_Re l G L xs y bytes fr lo pc ls (.inl x :: st) M (pc + 3) ls (.inl (if 0 ≤ x then x else 0 - x) :: st) M := by
  intro p e R s m args below meth c X hfr hlo H locs cells slots Q lsA hl hI hS hz c1 c2 k
  rw [Nat.sub_self] at c1 c2
  refine va_mabs X.1 X.2.1 (X.2.2.1.trans hl.1.symm) X.2.2.2.1 (X.2.2.2.2.1 _ h1) (X.2.2.2.2.1 _ h2) (X.2.2.2.2.1 _ h3) (X.2.2.2.2.1 _ h4) (by omega) (by rw [q_cats_sum]; omega) c1 c2 hd ?_
  have k1 := k H locs lsA hl hI hS
  rw [Nat.sub_self, Nat.sub_self] at k1
  exact k1
theorem q_r_mmaxL {idx : Nat} {x z : Int64} (hd : decode bytes pc = .ok (.invokestatic idx, 3)) (h1 : Cond.methodLink y.cls idx Lib.MathLoose.max_long.x ∈ q_wt) (h2 : Cond.static Lib.MathLoose.max_long.x ∈ q_wt) (h3 : Cond.initialized "java/lang/Math" ∈ q_wt) (h4 : Cond.code Lib.MathLoose.max_long.x Lib.MathLoose.max_long.code 4 (some .long) ∈ q_wt) (hc : q_cats st ≤ 8) (hf : 1 ≤ fr) (hL : 24 ≤ lo) : q_Re l G L xs y bytes fr lo pc ls (.inr (.inl z) :: .inr (.inl x) :: st) M (pc + 3) ls (.inr (.inl (if z < x then x else z)) :: st) M := by
  intro p e R s m args below meth c X hfr hlo H locs cells slots Q lsA hl hI hS hz c1 c2 k
  rw [Nat.sub_self] at c1 c2
  refine va_mmax_long X.1 X.2.1 (X.2.2.1.trans hl.1.symm) X.2.2.2.1 (X.2.2.2.2.1 _ h1) (X.2.2.2.2.1 _ h2) (X.2.2.2.2.1 _ h3) (X.2.2.2.2.1 _ h4) (by omega) (by rw [q_cats_sum]; omega) c1 c2 hd ?_
  have k1 := k H locs lsA hl hI hS
  rw [Nat.sub_self, Nat.sub_self] at k1
  exact k1
/-! calls -/
def q_Pc (G : q_G) (L : Nat) (xs : Nat → Int32) (as : List q_V) (M : q_M) : Array Value → State → Prop := va_Pc (as.map (q_vv G)) (fun U => q_In G L xs M U.heap ∧ va_K G.2.1 q_cl (q_tys G) U ∧ va_X G.1.1 L xs U U.heap ∧ G.1.1 < G.1.2 ∧ U.heap.size = G.1.2 + (M.2.2.2.2.2.1 - 1) ∧ ∀ w ∈ q_wt, q_bad w = true → w.before #[] U = true)
def q_Qc (G : q_G) (L : Nat) (xs : Nat → Int32) (r : Option q_V) (M1 : q_M) : Array Value → State → Outcome → State → Prop := fun _ U o t => o = .returned (r.map (q_vv G)) ∧ q_In G L xs M1 t.heap ∧ va_F (q_A G) U t
def q_wsy (y : MethodName) (bytes : ByteArray) (maxL : Nat) (ret : Option FieldType) : List Cond := Cond.code y bytes maxL ret :: q_wt.filter goodWord
def q_rm (fr lo : Nat) (M M1 : q_M) : Room := { frames := fr, cells := M1.2.2.2.2.2.1 - M.2.2.2.2.2.1, slots := M1.2.2.2.2.2.2 - M.2.2.2.2.2.2, locals := lo }
def q_Mt (l : Launch) (G : q_G) (L : Nat) (xs : Nat → Int32) (y : MethodName) (bytes : ByteArray) (maxL : Nat) (ret : Option FieldType) (fr lo : Nat) (as : List q_V) (M : q_M) (r : Option q_V) (M1 : q_M) : Prop :=
  Met l y (q_wsy y bytes maxL ret) (q_rm fr lo M M1) (q_Pc G L xs as M) (q_Qc G L xs r M1) (M1.2.2.2.2.2.1 - M.2.2.2.2.2.1) (M1.2.2.2.2.2.2 - M.2.2.2.2.2.2) (q_A G)
theorem q_blind {as : List q_V} : FrameBlind (q_Pc G L xs as M) := by
  intro a U g mk q
  obtain ⟨q0, q1, q2, q3, q4, q5, q6⟩ := q
  exact ⟨q0, q1, va_K.moved (u := U) (U := U.calling g mk a) (Vm.Alike.refl U.vm) q2, va_X.moved (u := U) (U := U.calling g mk a) (Vm.Alike.refl U.vm) q3, q4, q5, fun w hw hb => q_bad_warm (U := U.calling g mk a) hb (State.WarmedH.refl U) (q6 w hw hb)⟩
theorem q_go {p : Program} {e : Env} {R : Room} {s : State} {m : MethodId} {args a : Array Value} {below : List Frame} {meth : Method} {c : Code} {H : Heap} {locs : List Loc} {cells slots mc ms : Nat} {Q : State → Prop} {lsA : Array Slot} {st0 rest : List Value} {r : Option q_V}
    (hr : va_Run p l e R s m args below meth c H locs cells slots mc ms (F0 m pc lsA st0) rest (q_Qc G L xs r M1 a) (q_A G)) (hS : va_S (q_A G) s.heap H locs)
    (kk : ∀ (H1 : Heap) (locs1 : List Loc), q_In G L xs M1 H1 → va_S (q_A G) s.heap H1 locs1 → W p l e R s m args below meth c H1 locs1 (cells + mc) (slots + ms) Q (F0 m (pc + 3) lsA ((r.map (q_vv G)).toList ++ rest))) : W p l e R s m args below meth c H locs cells slots Q (F0 m pc lsA st0) := by
  intro T hT X
  obtain ⟨v, st₀, t, T', L1, h0, X', hL, e1, e2, ⟨hq, hI, hz, hk⟩, st⟩ := hr T hT X
  cases hq
  rw [h0] at hz hk
  obtain ⟨t2, a1, b1⟩ := kk T'.heap (locs ++ L1) (by rw [e1]; exact hI) ⟨Nat.le_trans hS.1 (by rw [e1]; exact hz), fun q g1 g2 => by rw [e1, hk q (Nat.lt_of_lt_of_le g1 hS.1) g2]; exact hS.2.1 q g1 g2, fun q hq => by
      rcases List.mem_append.mp hq with h | h
      · exact hS.2.2 q h
      · exact hL q h⟩ T' rfl X'
  exact ⟨t2, st t2 a1, b1⟩
theorem q_pre {as : List q_V} {p : Program} {s : State} {m : MethodId} {args : Array Value} {meth : Method} {c : Code} {H : Heap} {locs : List Loc} {n : Nat} (X : q_Cx G L xs y bytes n p s m args meth c) (hI : q_In G L xs M H) (hS : va_S (q_A G) s.heap H locs) (hz : H.size = G.1.2 + (M.2.2.2.2.2.1 - 1)) : ∀ U : State, U.heap = H → s.WarmedH U.vm → q_Pc G L xs as M (as.map (q_vv G)).toArray U := by
  intro U hU hW
  obtain ⟨-, -, -, -, hts, -, hK, hX, b1, b2, b3⟩ := X
  refine ⟨rfl, by rw [hU]; exact hI, va_K.moved hW.alike hK, ?_, b2, by rw [hU]; exact hz, fun w hw hb => q_bad_warm hb hW (hts w hw)⟩
  rw [hU]
  exact va_X.moved hW.alike (hX.kept (hS.2.1 _ b1 (show ¬ G.1.2 ≤ G.1.1 by omega)))
/-- what the tables say of a method that is called -/
def q_Cw (y : MethodName) (bytes : ByteArray) (maxL : Nat) (ret : Option FieldType) (n : Nat) : Prop := Cond.code y bytes maxL ret ∈ q_wt ∧ Cond.initialized y.cls ∈ q_wt ∧ y.cls ≠ "java/lang/invoke/MethodHandle" ∧ y.cls ≠ "java/lang/invoke/VarHandle" ∧ (parseMethodDescriptor y.desc).map (fun d => d.parameters.length) = some n
def q_Gd : Prop := True
theorem q_gin (hG : q_Gd) {y1 : MethodName} {by1 : ByteArray} {n1 : Nat} {r1 : Option FieldType} (h : Cond.code y1 by1 n1 r1 ∈ q_wt) : GoodIn q_wt (q_wsy y1 by1 n1 r1) := by
  intro w hw
  rcases List.mem_cons.mp hw with rfl | hw
  · exact ⟨h, good_of_word rfl⟩
  · obtain ⟨h1, h2⟩ := List.mem_filter.mp hw
    exact ⟨h1, good_of_word h2⟩
variable {y1 : MethodName} {by1 : ByteArray} {n1 fr1 lo1 : Nat} {r1 : Option FieldType} {as : List q_V} {r : Option q_V} {rest : List q_V} {idx : Nat}
theorem q_stk (G : q_G) (as rest : List q_V) : (as.reverse ++ rest).map (q_vv G) = (as.map (q_vv G)).reverse ++ rest.map (q_vv G) := by
  rw [List.map_append, List.map_reverse]
theorem q_ret (G : q_G) (r : Option q_V) (rest : List q_V) : (r.toList ++ rest).map (q_vv G) = (r.map (q_vv G)).toList ++ rest.map (q_vv G) := by
  cases r <;> rfl
theorem q_rooms (hc : q_cats rest ≤ 8) (m : MethodId) (pc : Nat) (lsA : Array Slot) (st0 : List Value) : 2 * (F0 m pc lsA st0).monitorRoom + ((rest.map (q_vv G)).map fun v => v.category).sum ≤ 8 := lv_room (by rw [q_cats_sum]; exact hc)
theorem q_r_callS (hG : q_Gd) (hd : decode bytes pc = .ok (.invokestatic idx, 3)) (hM : q_Mt l G L xs y1 by1 n1 r1 fr1 lo1 as M r M1) (hw : q_Cw y1 by1 n1 r1 as.length) (h1 : Cond.methodLink y.cls idx y1 ∈ q_wt) (h2 : Cond.static y1 ∈ q_wt) (hf : fr1 + 1 ≤ fr) (hL : 8 + (n1 + 11) + lo1 ≤ lo) (hc : q_cats rest ≤ 8) :
    q_Re l G L xs y bytes fr lo pc ls (as.reverse ++ rest) M (pc + 3) ls (r.toList ++ rest) M1 := by
  intro p e R s m args below meth c X hfr hlo H locs cells slots Q lsA hl hI hS hz c1 c2 k
  refine q_sized fun hs => ?_
  have hsz := hI.size hS X.2.2.2.2.2.2.2.2.2.2 hz hs
  rw [q_stk]
  refine q_go (va_runS (As := as.map (q_vv G)) (rest := rest.map (q_vv G)) (nL := ls.length) (own := y.cls) ⟨X.1, X.2.1, X.2.2.1, X.2.2.2.1, X.2.2.2.2.1⟩ hM ⟨callB_of as.length X.2.2.2.2.1 (q_gin hG hw.1) rfl rfl rfl (X.2.2.2.2.1 _ hw.2.1) (X.2.2.2.2.1 _ h1) hw.2.2 ⟨Nat.le_trans hf hfr, Nat.le_trans hL hlo⟩, X.2.2.2.2.1 _ h2⟩ ⟨q_blind, q_pre X hI hS hsz⟩ rfl (by rw [List.length_map]) hl.1 rfl (q_rooms hc _ _ _ _) hd ⟨c1, c2⟩) hS fun H1 locs1 hI1 hS1 => ?_
  rw [← q_ret]
  exact k H1 locs1 lsA hl hI1 hS1
theorem q_r_callI (hG : q_Gd) {a : Nat} {n : Nat} (hd : decode bytes pc = .ok (.invokespecial idx, 3)) (hM : q_Mt l G L xs y1 by1 n1 none fr1 lo1 (.inr (.inr (some a)) :: as) M r M1) (hw : q_Cw y1 by1 n1 none as.length) (hi : y1.name = "<init>") (h1 : Cond.methodLink y.cls idx y1 ∈ q_wt ∨ ∃ host, Cond.methodLinkNest y.cls idx y1 host ∈ q_wt) (h2 : Cond.instanceMethod y1 ∈ q_wt) (hf : fr1 + 1 ≤ fr) (hL : 8 + (n1 + 11) + lo1 ≤ lo) (hc : q_cats rest ≤ 8) :
    q_Re l G L xs y bytes fr lo pc ls (as.reverse ++ .inr (.inr (some a)) :: rest) M (pc + 3) ls (r.toList ++ rest) M1 := by
  intro p e R s m args below meth c X hfr hlo H locs cells slots Q lsA hl hI hS hz c1 c2 k
  refine q_sized fun hs => ?_
  have hsz := hI.size hS X.2.2.2.2.2.2.2.2.2.2 hz hs
  rw [q_stk]
  have kk : ∀ (H1 : Heap) (locs1 : List Loc), q_In G L xs M1 H1 → va_S (q_A G) s.heap H1 locs1 → W p l e R s m args below meth c H1 locs1 (cells + (M1.2.2.2.2.2.1 - M.2.2.2.2.2.1)) (slots + (M1.2.2.2.2.2.2 - M.2.2.2.2.2.2)) Q (F0 m (pc + 3) lsA ((r.map (q_vv G)).toList ++ rest.map (q_vv G))) := by
    intro H1 locs1 hI1 hS1
    rw [← q_ret]
    exact k H1 locs1 lsA hl hI1 hS1
  rcases h1 with h1 | ⟨host, h1⟩
  · exact q_go (va_runI (As := as.map (q_vv G)) (rest := rest.map (q_vv G)) (b := q_ad G a) (nL := ls.length) (own := y.cls) ⟨X.1, X.2.1, X.2.2.1, X.2.2.2.1, X.2.2.2.2.1⟩ hM ⟨callB_of as.length X.2.2.2.2.1 (q_gin hG hw.1) rfl rfl rfl (X.2.2.2.2.1 _ hw.2.1) (X.2.2.2.2.1 _ h1) hw.2.2 ⟨Nat.le_trans hf hfr, Nat.le_trans hL hlo⟩, hi, X.2.2.2.2.1 _ h2⟩ ⟨q_blind, q_pre (as := .inr (.inr (some a)) :: as) X hI hS hsz⟩ rfl (by rw [List.length_map]) hl.1 rfl (q_rooms hc _ _ _ _) hd ⟨c1, c2⟩) hS kk
  · exact q_go (va_runIN (As := as.map (q_vv G)) (rest := rest.map (q_vv G)) (b := q_ad G a) (nL := ls.length) (own := y.cls) ⟨X.1, X.2.1, X.2.2.1, X.2.2.2.1, X.2.2.2.2.1⟩ hM ⟨va_cnB as.length X.2.2.2.2.1 (q_gin hG hw.1) rfl rfl rfl (X.2.2.2.2.1 _ h1) (X.2.2.2.2.1 _ hw.2.1) hw.2.2 ⟨Nat.le_trans hf hfr, Nat.le_trans hL hlo⟩, hi, X.2.2.2.2.1 _ h2⟩ ⟨q_blind, q_pre (as := .inr (.inr (some a)) :: as) X hI hS hsz⟩ rfl (by rw [List.length_map]) hl.1 rfl (q_rooms hc _ _ _ _) hd ⟨c1, c2⟩) hS kk
theorem q_r_callV (hG : q_Gd) {a : Nat} (hd : decode bytes pc = .ok (.invokevirtual idx, 3)) (hM : q_Mt l G L xs y1 by1 n1 r1 fr1 lo1 (.inr (.inr (some a)) :: as) M r M1) (hw : q_Cw y1 by1 n1 r1 as.length) (ht : M.1 a < 13)
    (h1 : (Cond.methodLink y.cls idx y1 ∈ q_wt ∧ Cond.instanceMethod y1 ∈ q_wt ∧ Cond.selects (q_R1 (M.1 a)) y1 y1 ∈ q_wt) ∨ ∃ (x1 : MethodName) (b0 : ByteArray) (m0 : Nat) (r0 : Option FieldType), Cond.methodLink y.cls idx x1 ∈ q_wt ∧ Cond.sameMethod x1.cls x1.cls x1.name x1.desc ∈ q_wt ∧ Cond.instanceMethod x1 ∈ q_wt ∧ Cond.selects (q_R1 (M.1 a)) x1 y1 ∈ q_wt ∧ Cond.instanceMethod y1 ∈ q_wt ∧ Cond.code x1 b0 m0 r0 ∈ q_wt ∧ x1.cls ≠ "java/lang/invoke/MethodHandle" ∧ x1.cls ≠ "java/lang/invoke/VarHandle" ∧ x1.desc = y1.desc)
    (hf : fr1 + 1 ≤ fr) (hL : 8 + (n1 + 11) + lo1 ≤ lo) (hc : q_cats rest ≤ 8) :
    q_Re l G L xs y bytes fr lo pc ls (as.reverse ++ .inr (.inr (some a)) :: rest) M (pc + 3) ls (r.toList ++ rest) M1 := by
  intro p e R s m args below meth c X hfr hlo H locs cells slots Q lsA hl hI hS hz c1 c2 k
  refine q_sized fun hs => ?_
  have hsz := hI.size hS X.2.2.2.2.2.2.2.2.2.2 hz hs
  rw [q_stk]
  have kk : ∀ (H1 : Heap) (locs1 : List Loc), q_In G L xs M1 H1 → va_S (q_A G) s.heap H1 locs1 → W p l e R s m args below meth c H1 locs1 (cells + (M1.2.2.2.2.2.1 - M.2.2.2.2.2.1)) (slots + (M1.2.2.2.2.2.2 - M.2.2.2.2.2.2)) Q (F0 m (pc + 3) lsA ((r.map (q_vv G)).toList ++ rest.map (q_vv G))) := by
    intro H1 locs1 hI1 hS1
    rw [← q_ret]
    exact k H1 locs1 lsA hl hI1 hS1
  have hat := hI.at (a := a) (by omega)
  rw [q_cell_o ht] at hat
  have hrecv := va_recv X.2.2.2.2.2.2.1 hI.1 (q_clt _ ht) hat
  rcases h1 with ⟨h1, h2, h3⟩ | ⟨⟨cl1, nm1, ds1⟩, b0, m0, r0, h1, h2, h3, h4, h5, h6, h7, h8, h9⟩
  · exact q_go (va_runV (As := as.map (q_vv G)) (rest := rest.map (q_vv G)) (b := q_ad G a) (C := q_R1 (M.1 a)) (nL := ls.length) (own := y.cls) ⟨X.1, X.2.1, X.2.2.1, X.2.2.2.1, X.2.2.2.2.1⟩ hM ⟨callB_of as.length X.2.2.2.2.1 (q_gin hG hw.1) rfl rfl rfl (X.2.2.2.2.1 _ hw.2.1) (X.2.2.2.2.1 _ h1) hw.2.2 ⟨Nat.le_trans hf hfr, Nat.le_trans hL hlo⟩, X.2.2.2.2.1 _ h2, X.2.2.2.2.1 _ h3⟩ ⟨q_blind, hrecv, q_pre (as := .inr (.inr (some a)) :: as) X hI hS hsz⟩ rfl (by rw [List.length_map]) hl.1 rfl (q_rooms hc _ _ _ _) hd ⟨c1, c2⟩) hS kk
  · have hgd : GoodIn q_wt (va_wsO y.cls idx (q_R1 (M.1 a)) cl1 ⟨cl1, nm1, ds1⟩ y1 (q_wsy y1 by1 n1 r1)) := by
      intro w hw1
      rcases List.mem_append.mp hw1 with hw1 | hw1
      · simp only [List.mem_cons, List.not_mem_nil, or_false] at hw1
        rcases hw1 with rfl | rfl | rfl | rfl | rfl | rfl
        · exact ⟨h1, good_of_word rfl⟩
        · exact ⟨h2, good_of_word rfl⟩
        · exact ⟨h3, good_of_word rfl⟩
        · exact ⟨h4, good_of_word rfl⟩
        · exact ⟨h5, good_of_word rfl⟩
        · exact ⟨hw.2.1, good_of_word rfl⟩
      · exact q_gin hG hw.1 w hw1
    exact q_go (va_runU (As := as.map (q_vv G)) (rest := rest.map (q_vv G)) (b := q_ad G a) (C := q_R1 (M.1 a)) (owner := cl1) (nL := ls.length) (own := y.cls) ⟨X.1, X.2.1, X.2.2.1, X.2.2.2.1, X.2.2.2.2.1⟩ hM (va_cwO (x := ⟨cl1, nm1, ds1⟩) as.length X.2.2.2.2.1 hgd rfl rfl rfl h6 ⟨h7, h8, by rw [show (⟨cl1, nm1, ds1⟩ : MethodName).desc = y1.desc from h9]; exact hw.2.2.2.2⟩ ⟨Nat.le_trans hf hfr, Nat.le_trans hL hlo⟩) ⟨q_blind, hrecv, q_pre (as := .inr (.inr (some a)) :: as) X hI hS hsz⟩ rfl (by rw [List.length_map]) hl.1 rfl (q_rooms hc _ _ _ _) hd ⟨c1, c2⟩) hS kk
end QN
