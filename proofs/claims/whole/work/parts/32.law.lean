/-! ===== THE MULTI-ARRAY IN A MEMORY'S WORLD ===== -/
theorem q_tMu {l : Launch} {G : q_G} {L : Nat} {xs : Nat → Int32} : q_Mu l G L xs := by
  intro y bytes fr lo pc ls st M M1 n k0 hy hd h
  unfold q_new2 at h
  split at h
  · rename_i hh
    obtain ⟨⟨rfl, rfl⟩, b1, b2⟩ := hh
    have c3 : (3 : Int32).toNatClampNeg = 3 := by decide
    have c61 : (61 : Int32).toNatClampNeg = 61 := by decide
    rw [c3, c61] at h b2
    rw [c3] at b1
    have h := Option.some.inj h
    intro p e R s m args below meth c X hfr hlo H locs cells slots Q lsA hl hI hS hz d1 d2 k
    refine q_sized fun hs => ?_
    have hsz := hI.size hS X.2.2.2.2.2.2.2.2.2.2 hz hs
    have hm := hI.2.1
    have n1 : M1.2.2.2.2.2.1 = M.2.2.2.2.2.1 + 1 + 3 := by rw [← h]
    have n2 : M1.2.2.2.2.2.2 = M.2.2.2.2.2.2 + (3 + 3 * 61) := by rw [← h]
    have hN := hm.1
    rw [n1] at d1
    rw [n2] at d2
    refine q_Wmulti (own := y.cls) X.1 X.2.1 X.2.2.2.1 (by rw [hy]; exact X.2.2.2.2.1 _ (q_mw (i := 232) (by decide +kernel) rfl)) (X.2.2.2.2.1 _ (q_mw (i := 233) (by decide +kernel) rfl)) (X.2.2.2.2.1 _ (q_mw (i := 132) (by decide +kernel) rfl)) hd (by omega) (by omega) fun H1 cA cI hA hB z1 e0 eo ei => ?_
    have hcA : cA = G.2.2 22 := q_aRA X.2.2.2.2.2.2.1 (t := 22) (by omega) (by omega) hA
    have hcI : cI = G.2.2 14 := q_aRA X.2.2.2.2.2.2.1 (t := 14) (by omega) (by omega) hB
    subst hcA
    subst hcI
    refine W.cs (show _ = cells + (M1.2.2.2.2.2.1 - M.2.2.2.2.2.1) by omega) (show _ = slots + (M1.2.2.2.2.2.2 - M.2.2.2.2.2.2) by omega) ?_
    have ea : H.size = q_ad G M.2.2.2.2.2.1 := by rw [q_ad_of G hN]; exact hsz
    have hgoal := k H1 (locs ++ (List.range 3).map fun j => ⟨H.size, j⟩) lsA hl ?_ ?_
    · have e2 : q_vv G (.inr (.inr (some M.2.2.2.2.2.1))) = .ref H.size := by
        show Value.ref (q_ad G M.2.2.2.2.2.1) = _
        rw [ea]
      rw [List.map_cons, e2] at hgoal
      exact hgoal
    · -- the world
      have t1 : M1.1 = fun a => if a < M.2.2.2.2.2.1 then M.1 a else if a = M.2.2.2.2.2.1 then 22 else if a < M.2.2.2.2.2.1 + 1 + 3 then 14 else M.1 a := by rw [← h]
      have t2 : M1.2.1 = fun a => if a < M.2.2.2.2.2.1 then M.2.1 a else if a = M.2.2.2.2.2.1 then 3 else 61 := by rw [← h]
      have t3 : M1.2.2.1 = fun a => if a < M.2.2.2.2.2.1 then M.2.2.1 a else fun _ => 0 := by rw [← h]
      have t4 : M1.2.2.2.1 = fun a => if a < M.2.2.2.2.2.1 then M.2.2.2.1 a else fun _ => 0 := by rw [← h]
      have t5 : M1.2.2.2.2.1 = fun a => if a < M.2.2.2.2.2.1 then M.2.2.2.2.1 a else if a = M.2.2.2.2.2.1 then fun j => if j < 3 then some (M.2.2.2.2.2.1 + 1 + j) else none else fun _ => none := by rw [← h]
      refine ⟨fun i q hq => ?_, ⟨by omega, ?_, fun a g1 g2 => ?_, fun a g1 => ?_⟩, ?_, ?_⟩
      · have hi : i < M1.2.2.2.2.2.1 - 1 := by
          have := (List.getElem?_eq_some_iff.mp hq).1
          rw [q_ws_len] at this
          exact this
        have hq2 := q_ws_at (G := G) (M := M1) (a := i + 1) (by omega) (by omega)
        rw [Nat.add_sub_cancel] at hq2
        cases hq.symm.trans hq2
        by_cases c1 : i + 1 < M.2.2.2.2.2.1
        · have hc : q_cell G M1 (i + 1) = q_cell G M (i + 1) := q_cell_eq (by rw [t1]; simp only [if_pos c1]) (by rw [t2]; simp only [if_pos c1]) (by rw [t3]; simp only [if_pos c1]) (by rw [t4]; simp only [if_pos c1]) (by rw [t5]; simp only [if_pos c1])
          rw [hc]
          have hat := hI.1 _ _ (q_ws_at (G := G) (M := M) (a := i + 1) (by omega) c1)
          exact hat.kept (eo _ (by have := hat.lt; exact this))
        · by_cases c2 : i + 1 = M.2.2.2.2.2.1
          · rw [c2]
            have g1 : M1.1 M.2.2.2.2.2.1 = 22 := by rw [t1]; simp
            have g2 : M1.2.1 M.2.2.2.2.2.1 = 3 := by rw [t2]; simp
            have g3 : M1.2.2.2.2.1 M.2.2.2.2.2.1 = fun j => if j < 3 then some (M.2.2.2.2.2.1 + 1 + j) else none := by rw [t5]; simp
            rw [q_cell_r (by omega), g1, g2, g3, ← ea]
            show H1[H.size]? = some (vp_cell _ _)
            rw [e0]
            refine congrArg some ?_
            dsimp only
            rw [vp_cell_q]
            unfold q_out
            congr 1
            funext j
            by_cases hj : j < 3
            · simp only [if_pos hj, Option.map_some, va_rf]
              rw [q_ad_of G (by omega)]
              refine congrArg Value.ref ?_
              show H.size + 1 + j = G.1.2 + (M.2.2.2.2.2.1 + 1 + j - 1)
              rw [hsz]
              omega
            · simp only [if_neg hj, Option.map_none, va_rf]
          · have g1 : M1.1 (i + 1) = 14 := by rw [t1]; simp only [if_neg c1, if_neg c2, if_pos (show i + 1 < M.2.2.2.2.2.1 + 1 + 3 by omega)]
            have g2 : M1.2.1 (i + 1) = 61 := by rw [t2]; simp only [if_neg c1, if_neg c2]
            have g3 : M1.2.2.1 (i + 1) = fun _ => 0 := by rw [t3]; simp only [if_neg c1]
            rw [q_cell_i (by omega) (by omega) (by omega), g1, g2, g3, q_ad_of G (by omega)]
            show H1[G.1.2 + (i + 1 - 1)]? = some (vp_cell _ _)
            rw [show G.1.2 + (i + 1 - 1) = H.size + 1 + (i + 1 - M.2.2.2.2.2.1 - 1) by omega, ei _ (by omega)]
            rfl
      · rw [t1]
        simp only [if_pos (show 0 < M.2.2.2.2.2.1 by omega)]
        exact hm.2.1
      · rw [t1]
        simp only
        split
        · rename_i c1
          exact hm.2.2.1 a g1 c1
        · split
          · omega
          · rename_i c1 c2
            rw [if_pos (by omega)]
            omega
      · rw [t1]
        simp only [if_neg (show ¬ a < M.2.2.2.2.2.1 by omega), if_neg (show ¬ a = M.2.2.2.2.2.1 by omega), if_neg (show ¬ a < M.2.2.2.2.2.1 + 1 + 3 by omega)]
        exact hm.2.2.2 a (by omega)
      · rw [t2]
        simp only [if_pos (show 0 < M.2.2.2.2.2.1 by omega)]
        exact hI.2.2.1
      · rw [t3]
        simp only [if_pos (show 0 < M.2.2.2.2.2.1 by omega)]
        exact hI.2.2.2
    · refine ⟨by have := hS.1; omega, fun q g1 g2 => (eo q (by have := hS.1; omega)).trans (hS.2.1 q g1 g2), fun q hq => ?_⟩
      rcases List.mem_append.mp hq with hq | hq
      · exact hS.2.2 q hq
      · obtain ⟨j, -, rfl⟩ := List.mem_map.mp hq
        show G.1.2 ≤ H.size
        omega
  · cases h
/-! ===== THE LAW'S START ===== -/
theorem q_ins : ∀ t, t < 13 → Cond.instantiable (q_R1 t) (q_nf t) ∈ q_wt := q_13 (q_mw (i := 393) (by decide +kernel) rfl) (q_mw (i := 135) (by decide +kernel) rfl) (q_mw (i := 565) (by decide +kernel) rfl) (q_mw (i := 521) (by decide +kernel) rfl) (q_mw (i := 264) (by decide +kernel) rfl) (q_mw (i := 162) (by decide +kernel) rfl) (q_mw (i := 380) (by decide +kernel) rfl) (q_mw (i := 110) (by decide +kernel) rfl) (q_mw (i := 100) (by decide +kernel) rfl) (q_mw (i := 331) (by decide +kernel) rfl) (q_mw (i := 227) (by decide +kernel) rfl) (q_mw (i := 92) (by decide +kernel) rfl) (q_mw (i := 1004) (by decide +kernel) rfl)
theorem q_arr {s : State} {args : Array Value} (hts : ∀ w ∈ q_wt, w.before args s = true) : ∀ t, ∃ cA : ClassId, 13 ≤ t → t ≤ 22 → ArrOfT s cA (q_aty t) ∧ va_RA s cA (q_aty t) := by
  have prim : ∀ ty, Cond.arrayClass ty ∈ q_wt → (∀ n, ty ≠ .object n) → ∃ cA : ClassId, ArrOfT s cA ty ∧ va_RA s cA ty := by
    intro ty hw hn
    obtain ⟨cA, kA, comp, h1, h2, h3⟩ := Cond.arrayClass_spec (hts _ hw)
    refine ⟨cA, fun n z => ⟨fun k h => (by cases h), kA, h2, comp, h3⟩, ?_⟩
    cases ty <;> first | exact h1 | exact absurd rfl (hn _)
  have obj : ∀ n, Cond.arrayOver (.object n) ∈ q_wt → ∃ cA : ClassId, ArrOfT s cA (.object n) ∧ va_RA s cA (.object n) := by
    intro n hw
    obtain ⟨comp, cA, kA, h1, -, h2, h3, h4⟩ := Cond.arrayOver_spec (hts _ hw)
    exact ⟨cA, fun n z => ⟨fun k h => (by cases h), kA, h2, comp, h3⟩, kA, comp, h2, h3, h1, h4⟩
  intro t
  by_cases ht : 13 ≤ t ∧ t ≤ 22
  · rcases (show t = 13 ∨ t = 14 ∨ t = 15 ∨ t = 16 ∨ t = 17 ∨ t = 18 ∨ t = 19 ∨ t = 20 ∨ t = 21 ∨ t = 22 by omega) with rfl | rfl | rfl | rfl | rfl | rfl | rfl | rfl | rfl | rfl
    · obtain ⟨cA, h⟩ := prim .byte (q_mw (i := 262) (by decide +kernel) rfl) (fun n h => by cases h)
      exact ⟨cA, fun _ _ => h⟩
    · obtain ⟨cA, h⟩ := prim .int (q_mw (i := 132) (by decide +kernel) rfl) (fun n h => by cases h)
      exact ⟨cA, fun _ _ => h⟩
    · obtain ⟨cA, h⟩ := prim .long (q_mw (i := 133) (by decide +kernel) rfl) (fun n h => by cases h)
      exact ⟨cA, fun _ _ => h⟩
    · obtain ⟨cA, h⟩ := prim .boolean (q_mw (i := 290) (by decide +kernel) rfl) (fun n h => by cases h)
      exact ⟨cA, fun _ _ => h⟩
    · obtain ⟨cA, h⟩ := obj "CurveShelf$Curve" (q_mw (i := 106) (by decide +kernel) rfl)
      exact ⟨cA, fun _ _ => h⟩
    · obtain ⟨cA, h⟩ := obj "CurveShelf$Point" (q_mw (i := 141) (by decide +kernel) rfl)
      exact ⟨cA, fun _ _ => h⟩
    · obtain ⟨cA, h⟩ := obj "CurveShelf$Row" (q_mw (i := 168) (by decide +kernel) rfl)
      exact ⟨cA, fun _ _ => h⟩
    · obtain ⟨cA, h⟩ := obj "CurveShelf$Shelf" (q_mw (i := 108) (by decide +kernel) rfl)
      exact ⟨cA, fun _ _ => h⟩
    · obtain ⟨cA, h⟩ := obj "CurveShelf$State" (q_mw (i := 225) (by decide +kernel) rfl)
      exact ⟨cA, fun _ _ => h⟩
    · obtain ⟨comp, cA, kA, h1, -, h2, h3, h4⟩ := arrayOverA_spec (t := .int) (hts (.arrayOver (.array .int)) (q_mw (i := 233) (by decide +kernel) rfl))
      exact ⟨cA, fun _ _ => ⟨fun n z => ⟨fun k h => (by cases h), kA, h2, comp, h3⟩, h4⟩⟩
  · exact ⟨0, fun h1 h2 => absurd ⟨h1, h2⟩ ht⟩
def q_M0 (L : Nat) (xs : Nat → Int32) : q_M := (fun a => if a = 0 then 23 else 99, fun a => if a = 0 then L else 0, fun a => if a = 0 then xs else fun _ => 0, fun _ _ => 0, fun _ _ => none, 1, 0)
/-! THE CLAIM OUT OF ONE WALK OF THE LAW'S BODY. Your part is whole_start (and what it stands on); all else here is the same for every law, but numbers. -/
def R_law : String := "CurveShelfLaw"
def lw_P (b : Addr) (xs : List Int32) (args : Array Value) (s : State) : Prop := args = #[.ref b] ∧ s.IntsAt b xs ∧ xs.length ≤ 3584 ∧ (Jvm.Cond.and given_1 narrow_1).before args s = true
def lw_Q (_ : Array Value) (s : State) (o : Outcome) (t : State) : Prop := o = .returned (some (.int 1)) ∧ Framed s o t [] room_1.cells room_1.slots
def lw_Z (below : List Frame) (a : Array Value) (s : State) : State → Prop := fun t => ∃ o, t.status = .running ∧ Ended t below o ∧ lw_Q a s o t
/-- the law's own end, with 1 on the stack, nothing written that was there before, its room as the claim has it -/
theorem lw_ret {p : Program} {l : Launch} {e : Env} {s : State} {m : MethodId} {below : List Frame} {meth : Method} {c : Code} {b : Nat} (hx : p.tables.exec = Jvm.exec) (hb : c.code = code) (hr : meth.sig.returnType = ret) (hlocks : meth.locks = false) {pc : Nat} {H : Heap} {ls : Array Slot} (hdg : decode code pc = .ok (.ireturn, 1)) : W p l e room_1 s m #[Value.ref b] below meth c H [] room_1.cells room_1.slots (lw_Z below #[Value.ref b] s) (F0 m pc ls [.int 1]) := by
  intro T hT X
  obtain ⟨fs, hret, hrun, hended, hW, hframe⟩ := X.leave (v := some (.int 1)) (hlocks := hlocks) (fun h => by rw [hr] at h; cases h)
  have hmeth' : T.vm.method? m = some meth := X.method'
  refine ⟨T.setFrames fs, ?_, .returned (some (.int 1)), hrun, hended, rfl, ⟨_, rfl⟩, hW, hframe⟩
  jvm_step X.here [X.here.top, hx, hb, hdg, hmeth', hr, ret, narrow_b1]
  (try refine ⟨rfl, ?_⟩); (try refine ⟨rfl, ?_⟩)
  first | (intro acts; rw [hret _ acts rfl rfl rfl]) | rw [hret _ _ rfl rfl rfl]
  exact Steps.refl _
/-- what holds at the law's entry: the machine, the code, the tables' words (any of lw_tbl by 'hts w (by decide +kernel)'), the script of L ints xs at the cell b, what the Statement gives of the start (any of its parts by flat_of_before) -/
def lw_At (p : Program) (s : State) (m : MethodId) (meth : Method) (c : Code) (b L : Nat) (xs : Nat → Int32) : Prop :=
  p.tables.exec = Jvm.exec ∧ c.code = code ∧ meth.sig.returnType = ret ∧ c.maxLocals = 4 ∧ s.vm.findClass R_law = some m.cls ∧ (∀ w ∈ lw_tbl, w.before #[Value.ref b] s = true) ∧ va_X b L xs s s.heap ∧ b < s.heap.size ∧ meth.locks = false ∧ (Jvm.Cond.and given_1 narrow_1).before #[Value.ref b] s = true
/-- the law by the pure machine -/
theorem q_law {p : Program} {e : Env} {s : State} {m : MethodId} {below : List Frame} {meth : Method} {c : Code} (l : Launch) {b L : Nat} {xs : Nat → Int32} (C0 : lw_At p s m meth c b L xs) {M1 : q_M} (hrun : q_CC q_mt q_ct q_sw q_nf 235 [.inr (.inr (some 0))] (q_M0 L xs) = some (some (.inl 1), M1)) (h1 : M1.2.2.2.2.2.1 ≤ 100001) (h2 : M1.2.2.2.2.2.2 ≤ 2000000) : W p l e room_1 s m #[Value.ref b] below meth c s.heap [] 0 0 (lw_Z below #[Value.ref b] s) (entryFrame m ([Value.ref b] : List Value).toArray 4) := by
  obtain ⟨hx, hb, hr, hml, hown, hts0, hX, hbl, hlocks, hgv⟩ := id C0
  have hts : ∀ w ∈ q_wt, w.before #[Value.ref b] s = true := fun w hw => hts0 w (List.mem_filter.mp hw).1
  have hcl : ∀ t, ∃ z : ClassId × (Nat → Nat), t < 13 → u_Kn s (q_R1 t) (q_T1 t) (q_nf t) z.1 z.2 := by
    intro t
    by_cases ht : t < 13
    · obtain ⟨cC, iS, h⟩ := u_known (n := q_nf t) hts (q_tFw t ht) (hts _ (q_ins t ht))
      exact ⟨(cC, iS), fun _ => h⟩
    · exact ⟨(0, fun _ => 0), fun h => absurd h ht⟩
  obtain ⟨fC, hfC⟩ := Classical.axiomOfChoice hcl
  obtain ⟨fA, hfA⟩ := Classical.axiomOfChoice (q_arr hts)
  let G : q_G := ((b, s.heap.size), (fun t => (fC t).1, fun t => (fC t).2), fA)
  have hK : va_K G.2.1 q_cl (q_tys G) s := by
    refine ⟨fun t q hq => ?_, fun k q hq => ?_⟩
    · have ht : t < 13 := (List.getElem?_eq_some_iff.mp hq).1
      have := q_clt t ht
      cases hq.symm.trans this
      exact hfC t ht
    · have hk : k < 10 := (List.getElem?_eq_some_iff.mp hq).1
      have h3 := q_tyq G (k + 13) (by omega) (by omega)
      rw [Nat.add_sub_cancel] at h3
      cases hq.symm.trans h3
      exact hfA (k + 13) (by omega) (by omega)
  have hI : q_In G L xs (q_M0 L xs) s.heap := by
    refine ⟨fun k q hq => ?_, ⟨Nat.le_refl _, rfl, fun a g1 g2 => ?_, fun a g1 => ?_⟩, rfl, rfl⟩
    · have := (List.getElem?_eq_some_iff.mp hq).1
      rw [q_ws_len] at this
      exact absurd this (Nat.not_lt_zero _)
    · have g2 : a < 1 := g2
      omega
    · have g1 : 1 ≤ a := g1
      show 24 ≤ if a = 0 then 23 else 99
      rw [if_neg (by omega)]
      omega
  obtain ⟨n, hn⟩ := q_lim_to hrun
  cases n with
  | zero => cases hn
  | succ n =>
    have hn : ((q_get q_mt 235).bind fun T => (q_ent T [.inr (.inr (some 0))] (q_M0 L xs)).bind fun f => q_rc q_ct q_sw q_nf (q_cn q_mt q_ct q_sw q_nf n) T n f) = some (some (.inl 1), M1) := hn
    rw [g_L_law, Option.bind_some] at hn
    obtain ⟨f, h3, h4⟩ := Option.bind_eq_some_iff.mp hn
    obtain ⟨h5, rfl⟩ := q_ent_some h3
    have hm := ok_L_law
    have hC : q_SC l G L xs (q_cn q_mt q_ct q_sw q_nf n) := q_sim_cn q_tTb q_tMu q_tM q_tD n
    obtain ⟨k1, pc1, ls1, st1, i, k2, k3, k4⟩ := q_sim_rc q_tTb hC q_tMu hm n _ (some (.inl 1)) M1 (by rw [q_pad_len]; exact hm.2.1) h4
    obtain ⟨lsA, hen, hlr⟩ := q_entry G (as := [.inr (.inr (some 0))]) (n := 4) h5 m
    have hen : entryFrame m ([Value.ref b] : List Value).toArray 4 = F0 m 0 lsA [] := hen
    rw [hen]
    have X : q_Cx G L xs D_L_law.1 D_L_law.2.1 (q_pad T_L_law.2.2.2.1 (q_lay [.inr (.inr (some 0))])).length p s m #[Value.ref b] meth c := ⟨hx, hb, by rw [q_pad_len]; exact hml, hown, hts, fun e => absurd e (by decide), hK, hX, hbl, hbl, Nat.le_refl _⟩
    have kb : q_leM (q_M0 L xs) M1 := k1
    have kb1 : 1 ≤ M1.2.2.2.2.2.1 := kb.1
    have rc_ : 100000 ≤ room_1.cells := by decide
    have rs_ : 2000000 ≤ room_1.slots := by decide
    refine k4 p e room_1 s m _ below meth c X (by decide) (by decide) s.heap [] 0 0 _ lsA hlr hI va_S.rf (show s.heap.size + 0 = s.heap.size + (1 - 1) by omega) (show 0 + (M1.2.2.2.2.2.1 - 1) ≤ room_1.cells by omega) (show 0 + (M1.2.2.2.2.2.2 - 0) ≤ room_1.slots by omega) fun H1 locs1 lsA1 hL1 hI1 hS1 => ?_
    refine va_forget (fun q hq => hS1.2.2 q hq) ?_
    refine W.widen (k := room_1.cells) (n := room_1.slots) (show 0 + (M1.2.2.2.2.2.1 - 1) ≤ room_1.cells by omega) (show 0 + (M1.2.2.2.2.2.2 - 0) ≤ room_1.slots by omega) ?_
    rcases k3 with ⟨e1, rfl, rfl, e2⟩ | ⟨x, e1, rfl, rfl, e2⟩ | ⟨x, e1, rfl, rfl, e2⟩ | ⟨x, e1, rfl, rfl, e2⟩
    · cases e2
    · cases e2
      exact lw_ret hx hb hr hlocks k2
    · cases e2
    · cases e2
