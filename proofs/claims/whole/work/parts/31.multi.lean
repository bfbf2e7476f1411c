/-! ===== new int[3][61] ===== -/
def q_out (cA : ClassId) (h i : Nat) : Cell := arrV cA 3 (fun j => if j < i then .ref (h + 1 + j) else .null)
def q_inn (cI : ClassId) : Cell := arrV cI 61 (fun _ => .int 0)
theorem q_out_next (cA : ClassId) (h i : Nat) : (q_out cA h i).setSlot i (.ref (h + 1 + i)) = q_out cA h (i + 1) := by
  unfold q_out
  rw [arrV_store]
  congr 1
  funext j
  unfold updV
  by_cases e : j = i
  · subst e
    rw [if_pos rfl, if_pos (Nat.lt_succ_self j)]
  · rw [if_neg e]
    show (if j < i then Value.ref (h + 1 + j) else .null) = _
    by_cases e2 : j < i
    · rw [if_pos e2, if_pos (by omega)]
    · rw [if_neg e2, if_neg (by omega)]
def q_fill (S : State) (cA cI : ClassId) : Nat → State
  | 0 => S.pushCell (q_out cA S.heap.size 0)
  | i + 1 => ((q_fill S cA cI i).pushCell (q_inn cI)).setCell S.heap.size (q_out cA S.heap.size (i + 1))
theorem q_out_size (cA : ClassId) (h i : Nat) : (q_out cA h i).slots.size = 3 := arrV_size _ _ _
theorem q_inn_size (cI : ClassId) : (q_inn cI).slots.size = 61 := arrV_size _ _ _
theorem q_fill_at (S : State) (cA cI : ClassId) : ∀ i, (q_fill S cA cI i).heap.size = S.heap.size + 1 + i ∧ (q_fill S cA cI i).heap[S.heap.size]? = some (q_out cA S.heap.size i) ∧ (q_fill S cA cI i).vm = S.vm ∧ (q_fill S cA cI i).slotsUsed = S.slotsUsed + 3 + i * 61 ∧ (∀ a, a < S.heap.size → (q_fill S cA cI i).heap[a]? = S.heap[a]?) ∧ ∀ j, j < i → (q_fill S cA cI i).heap[S.heap.size + 1 + j]? = some (q_inn cI)
  | 0 => ⟨by simp [q_fill], by simp [q_fill], rfl, by simp [q_fill, q_out_size], fun a ha => State.heap_pushCell_of_lt _ _ ha, fun j hj => by omega⟩
  | i + 1 => by
    obtain ⟨h1, h2, h3, h4, h5, h6⟩ := q_fill_at S cA cI i
    have hl0 : S.heap.size < (q_fill S cA cI i).heap.size := by omega
    have hb : ((q_fill S cA cI i).pushCell (q_inn cI)).heap[S.heap.size]? = some (q_out cA S.heap.size i) := by
      rw [State.heap_pushCell_of_lt (h := hl0)]
      exact h2
    refine ⟨?_, State.heap_setCell_self hb, by simp [q_fill, h3], ?_, fun a ha => ?_, fun j hj => ?_⟩
    · simp [q_fill, State.setCell, h1]
      omega
    · simp [q_fill, h4, q_inn_size]
      omega
    · show (((q_fill S cA cI i).pushCell (q_inn cI)).setCell S.heap.size _).heap[a]? = _
      have hla : a < (q_fill S cA cI i).heap.size := by omega
      rw [State.heap_setCell_other (show S.heap.size ≠ a by omega), State.heap_pushCell_of_lt (h := hla)]
      exact h5 a ha
    · show (((q_fill S cA cI i).pushCell (q_inn cI)).setCell S.heap.size _).heap[S.heap.size + 1 + j]? = _
      rw [State.heap_setCell_other (show S.heap.size ≠ S.heap.size + 1 + j by omega)]
      by_cases e : j = i
      · subst e
        rw [← h1]
        exact State.heap_pushCell_size _ _
      · have hlj : S.heap.size + 1 + j < (q_fill S cA cI i).heap.size := by omega
        rw [State.heap_pushCell_of_lt (h := hlj)]
        exact h6 j (by omega)
theorem q_fill_top (S : State) (f : JFrame) (cA cI : ClassId) : ∀ i, q_fill (S.setTop f) cA cI i = (q_fill S cA cI i).setTop f
  | 0 => rfl
  | i + 1 => by simp only [q_fill, q_fill_top S f cA cI i, State.heap_setTop, State.pushCell_setTop, State.setCell_setTop]
section QW
variable {E : CtlPost} {e : Env} {d : Bool} {acts : List Action} {S : State}
theorem q_wpN {cA cI : ClassId} {k : Class} {ty : FieldType} {n : Nat} {v : Value} (hk : S.vm.classes[cA]? = some k) (hkind : k.kind = .array cI ty) (hl : ¬ n > e.platform.arrayLengthLimit) (hh : ¬ n * componentBytes ty > e.platform.maxHeapBytes) (hf : fits ty v = true) (hd : v.isDefault = true) {Q : Addr → Pre} (h1 : S.heap.size < e.platform.maxCells) (h2 : S.slotsUsed + n ≤ e.platform.maxSlots)
    (hq : Q S.heap.size d acts (S.pushCell (arrV cA n (fun _ => v)))) : wp (Jvm.newArray cA n v) Q E e d acts S := by
  rw [← arrV_new] at hq
  have hfits : ∀ i w, (Array.replicate n v)[i]? = some w → S.fitsSlot cA .none i w = true := by
    intro i w hw
    rw [Array.getElem?_replicate] at hw
    split at hw
    · cases hw
      simp [State.fitsSlot, State.slotType?, hk, hkind, hf]
    · cases hw
  have hda : allocActs (Array.replicate n v) S.heap.size acts = acts := by
    have hall : ((Array.replicate n v).all (·.isDefault)) = true := by
      rw [Array.all_replicate]
      split <;> simp [hd]
    unfold allocActs
    rw [if_pos hall]
  simp only [Jvm.newArray, Jvm.arrayFits, wp_bind', W.ask, W.ite, hl, if_false, wp_pure', W.theClass, hk, hkind, hh, W.alloc, W.stop, Option.some.injEq, exists_eq_left', Array.size_replicate, hda]
  rw [if_neg (by omega)]
  exact ⟨h1, h2, hfits, hq⟩
theorem q_wpM {cA cI cc : ClassId} {k kc : Class} (hk : S.vm.classes[cA]? = some k) (hkind : k.kind = .array cI (.array .int)) (hkc : S.vm.classes[cI]? = some kc) (hkindc : kc.kind = .array cc .int)
    (hl1 : ¬ 61 > e.platform.arrayLengthLimit) (hh1 : ¬ 61 * 4 > e.platform.maxHeapBytes) (hc : S.heap.size + 4 ≤ e.platform.maxCells) (hs : S.slotsUsed + 186 ≤ e.platform.maxSlots)
    {Q : Addr → Pre} (hq : ∀ d' acts', Q S.heap.size d' acts' (q_fill S cA cI 3)) : wp (multianewarray.make cA [3, 61]) Q E e d acts S := by
  have hfind : (([61] : List Int32).find? (· < 0)) = none := by decide
  have h3 : ¬ (3 : Int32) < 0 := by decide
  have h61 : ¬ (61 : Int32) < 0 := by decide
  have c3 : (3 : Int32).toNatClampNeg = 3 := by decide
  have c61 : (61 : Int32).toNatClampNeg = 61 := by decide
  rw [multianewarray.make]
  simp only [wp_bind', W.ite, h3, if_false, wp_pure', W.theClass, hk, hkind, Option.some.injEq, exists_eq_left', c3]
  refine q_wpN hk hkind (by omega) (show ¬ 3 * 4 > e.platform.maxHeapBytes by omega) rfl rfl (by omega) (by omega) ?_
  simp only [hfind]
  rw [ite_self, wp_bind', Std.Legacy.Range.forIn_eq_forIn_range']
  show wp (forIn (List.range' 0 3 1) PUnit.unit _) _ E e d acts _
  refine wp_forIn_inv (fun rest s' => ∃ i, i ≤ 3 ∧ rest = List.range' i (3 - i) ∧ s' = q_fill S cA cI i) _ _ ⟨0, by omega, rfl, rfl⟩ ?_ ?_
  · rintro x rest s' d' acts' Q' ⟨i, hi, hl, rfl⟩ hnext
    have hlt : i < 3 := by
      rcases Nat.lt_or_ge i 3 with h | h
      · exact h
      · rw [show 3 - i = 0 by omega] at hl
        cases hl
    rw [show 3 - i = (3 - (i + 1)) + 1 by omega, List.range'_succ] at hl
    obtain ⟨rfl, hr⟩ := List.cons.inj hl
    obtain ⟨f1, f2, f3, f4, -, -⟩ := q_fill_at S cA cI x
    simp only [wp_bind']
    rw [multianewarray.make]
    simp only [wp_bind', W.ite, h61, if_false, wp_pure', W.theClass, f3, hkc, hkindc, Option.some.injEq, exists_eq_left', c61]
    refine q_wpN (k := kc) (by rw [f3]; exact hkc) hkindc hl1 hh1 rfl rfl (by rw [f1]; omega) (by rw [f4]; omega) ?_
    simp only [wp_bind', W.writeLoc, wp_pure']
    have hl0 : S.heap.size < (q_fill S cA cI x).heap.size := by omega
    refine ⟨q_out cA S.heap.size x, by rw [State.heap_pushCell_of_lt (h := hl0)]; exact f2, by simp [q_out, arrV], by rw [q_out_size]; exact hlt, ?_, hnext _ _ _ ⟨x + 1, hlt, hr, ?_⟩⟩
    · simp [q_out, arrV, State.fitsSlot, State.slotType?, f3, hk, hkind, fits]
    · rw [f1, q_out_next]
      rfl
  · rintro s' d' acts' ⟨i, hi, hl, rfl⟩
    have hiN : i = 3 := by
      rcases Nat.lt_or_ge i 3 with h | h
      · rw [show 3 - i = (3 - (i + 1)) + 1 by omega, List.range'_succ] at hl
        cases hl
      · omega
    subst hiN
    simp only [wp_pure']
    exact hq _ _
end QW
section QX
variable {p : Program} {l : Launch} {e : Env} {R : Room} {s : State} {m : MethodId} {args : Array Value} {below : List Frame} {meth : Method} {c : Code} {T : State} {locs : List Loc} {cells slots : Nat}
theorem q_filled (X : Stand p l e R s m args below meth c T locs cells slots) (cA cI : ClassId) : ∀ i, Stand p l e R s m args below meth c (q_fill T cA cI i) (locs ++ (List.range i).map fun j => ⟨T.heap.size, j⟩) (cells + 1 + i) (slots + 3 + i * 61)
  | 0 => by
    have h := X.pushed (q_out cA T.heap.size 0)
    rw [q_out_size] at h
    simpa [q_fill] using h
  | i + 1 => by
    have Xi := q_filled X cA cI i
    obtain ⟨f1, f2, f3, f4, -, -⟩ := q_fill_at T cA cI i
    have hl0 : T.heap.size < (q_fill T cA cI i).heap.size := by omega
    have hcell : ((q_fill T cA cI i).pushCell (q_inn cI)).heap[T.heap.size]? = some (q_out cA T.heap.size i) := by
      rw [State.heap_pushCell_of_lt (h := hl0)]
      exact f2
    have h := (Xi.pushed (q_inn cI)).stored hcell i (.ref (T.heap.size + 1 + i))
    rw [q_inn_size, q_out_next] at h
    have e2 : (locs ++ (List.range (i + 1)).map fun j => (⟨T.heap.size, j⟩ : Loc)) = (locs ++ (List.range i).map fun j => (⟨T.heap.size, j⟩ : Loc)) ++ [⟨T.heap.size, i⟩] := by simp [List.range_succ, List.append_assoc]
    rw [e2, show slots + 3 + (i + 1) * 61 = slots + 3 + i * 61 + 61 by omega]
    exact h
theorem q_Wmulti {H : Heap} {Q : State → Prop} {cc : ByteArray} {pc : Nat} {lsA : Array Slot} {rest : List Value} (hexec : p.tables.exec = Jvm.exec) (hb : c.code = cc) {own : String} {index : Nat} (hown : s.vm.findClass own = some m.cls) (hclink : (Cond.classLink own index "[[I").before args s = true) (hover : (Cond.arrayOver (.array .int)).before args s = true) (harr : (Cond.arrayClass .int).before args s = true) (hdg : decode cc pc = .ok (.multianewarray index 2, 4)) (hcells : cells + 4 ≤ R.cells) (hslots : slots + 186 ≤ R.slots)
    (kk : ∀ (H1 : Heap) (cA cI : ClassId), s.vm.findClass "[[I" = some cA → s.vm.findClass "[I" = some cI → H1.size = H.size + 4 → H1[H.size]? = some (q_out cA H.size 3) → (∀ a, a < H.size → H1[a]? = H[a]?) → (∀ j, j < 3 → H1[H.size + 1 + j]? = some (q_inn cI)) → W p l e R s m args below meth c H1 (locs ++ (List.range 3).map fun j => ⟨H.size, j⟩) (cells + 4) (slots + 186) Q (F0 m (pc + 4) lsA (.ref H.size :: rest))) :
    W p l e R s m args below meth c H locs cells slots Q (F0 m pc lsA (.int 61 :: .int 3 :: rest)) := by
  intro T hT X
  have hpl : e.platform.magicAccessors = ({} : Platform).magicAccessors := by rw [X.admits.platform]
  obtain ⟨cI, cA, kA, hcI, -, hkA, hkindA, hnameA⟩ := arrayOverA_spec hover
  obtain ⟨cI', kC, cc', hcI', hkC, hkindC⟩ := Cond.arrayClass_spec harr
  have ecomp : cI' = cI := Option.some.inj (hcI'.symm.trans hcI)
  subst ecomp
  obtain ⟨c0, hfc0, hcl⟩ := Cond.classLink_spec hown hclink e.platform hpl
  cases hnameA.symm.trans hfc0
  obtain ⟨hg₁, hwarm₁, hready₁⟩ := State.classEntry (e := e) X.warmed hcl
  generalize T.vm.noted m.cls index (.cls cA) = vm₁ at hg₁ hwarm₁ hready₁
  have hal : s.vm.Alike vm₁ := hwarm₁.alike
  obtain ⟨kA₁, hkA₁, heA⟩ := hal.2.2 _ _ hkA
  obtain ⟨kC₁, hkC₁, heC⟩ := hal.2.2 _ _ hkC
  have hkindA₁ : kA₁.kind = .array cI' (.array .int) := by rw [heA]; exact hkindA
  have hkindC₁ : kC₁.kind = .array cc' .int := by rw [heC]; exact hkindC
  have X₁ := X.noted hwarm₁
  obtain ⟨hr1, hr2⟩ := X.roomAbove (a := 4) (b := 186) hcells hslots
  have XF := q_filled X₁ cA cI' 3
  obtain ⟨f1, f2, f3, f4, f5, f6⟩ := q_fill_at (T.setVm vm₁) cA cI' 3
  have hTh : (T.setVm vm₁).heap = H := hT
  rw [hTh] at f1 f2 f5 f6 XF
  obtain ⟨t, a1, b1⟩ := kk _ cA cI' hnameA hcI' f1 f2 f5 f6 _ rfl XF
  refine ⟨t, ?_, b1⟩
  have hl1 : ¬ 61 > e.platform.arrayLengthLimit := by rw [Launch.admits_arrayLengthLimit X.admits]; omega
  have hh1 : ¬ 61 * 4 > e.platform.maxHeapBytes := by rw [Launch.admits_maxHeapBytes X.admits]; omega
  jvm_step X.here [hexec, hb, hdg]
  simp only [multianewarray.sem, wp_bind', W.resolveClassAt_links (State.method?_setTop (F0 m pc lsA (.int 61 :: .int 3 :: rest)) X.here.top) hg₁]
  rw [W.popN, if_neg (by decide)]
  refine ⟨F0 m pc lsA (.int 61 :: .int 3 :: rest), State.topJava?_setTop' (s := T.setVm vm₁) _ X.here.top, [.int 3, .int 61], rest, rfl, rfl, ?_⟩
  simp only [List.mapM_cons, List.mapM_nil, wp_bind', wp_pure']
  refine q_wpM (k := kA₁) (kc := kC₁) (cI := cI') (cc := cc') hkA₁ hkindA₁ hkC₁ hkindC₁ hl1 hh1 (by show T.heap.size + 4 ≤ _; omega) (by show T.slotsUsed + 186 ≤ _; omega) (fun d' acts' => ?_)
  have eS : ((T.setTop (F0 m pc lsA (.int 61 :: .int 3 :: rest))).setVm vm₁).setTop (F0 m pc lsA rest) = (T.setVm vm₁).setTop (F0 m pc lsA rest) := by
    show ((T.setVm vm₁).setTop _).setTop _ = _
    rw [State.setTop_setTop]
  show wp _ _ _ _ _ _ (q_fill (((T.setTop (F0 m pc lsA (.int 61 :: .int 3 :: rest))).setVm vm₁).setTop (F0 m pc lsA rest)) cA cI' 3)
  rw [eS, q_fill_top]
  simp only [wp_bind', W.mark, W.pushRef, State.topJava?_setTop' _ XF.here.top, Option.some.injEq, exists_eq_left', State.setTop_setTop, State.heap_setTop]
  intro acts
  simp [jvm, XF.here.top]
  rw [hT]
  exact a1
end QX
