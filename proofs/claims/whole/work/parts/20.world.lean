/-! ===== THE WORDS THAT ARE USED ===== -/
def q_bad (w : Cond) : Bool := match w with
  | .arrayOver (.object _) => true
  | .arrayOver (.array _) => true
  | .castable _ _ => true
  | .methodLinkNest _ _ _ _ => true
  | _ => false
def q_wt : List Cond := lw_tbl.filter fun w => goodWord w || q_bad w
theorem q_mw {i : Nat} {w : Cond} (h : lw_tbl[i]? = some w) (hu : (goodWord w || q_bad w) = true) : w ∈ q_wt := List.mem_filter.mpr ⟨List.mem_of_getElem? h, hu⟩
theorem q_AOA {t : FieldType} {A A' : Array Value} {u U : State} (hvm : u.vm.Alike U.vm) (h : (Cond.arrayOver (.array t)).before A u = true) : (Cond.arrayOver (.array t)).before A' U = true := by
  obtain ⟨comp, c, k, h1, h2, h3, h4, h5⟩ := arrayOverA_spec h
  obtain ⟨k', hk', he⟩ := hvm.2.2 _ _ h3
  have hi : (U.vm.classes.findIdx? fun (x : Class) => match x.kind with | .array component _ => component == comp | _ => false) = some c := by
    rw [hvm.findIdx?_eq _ (fun _ => rfl)]
    exact h2
  have hkind : k'.kind = .array comp (.array t) := by rw [he]; exact h4
  have f1 : U.vm.findClass (FieldType.array t).toString = some comp := by rw [hvm.findClass]; exact h1
  have f2 : U.vm.findClass ("[" ++ (FieldType.array t).toString) = some c := by rw [hvm.findClass]; exact h5
  unfold Cond.before Cond.holds
  simp only [Cond.value]
  rw [f1, Option.bind_some]
  refine (congrArg (fun o : Option Nat => (o.bind (fun c => (U.vm.classes[c]?).map fun (k : Class) => match k.kind with | .array _ ty => decide (ty = FieldType.array t) && decide (U.vm.findClass ("[" ++ (FieldType.array t).toString) = some c) | _ => false) == some true)) hi).trans ?_
  simp [hk', hkind, f2]
theorem q_bad_warm {w : Cond} (hb : q_bad w = true) {A A' : Array Value} {s U : State} (hW : s.WarmedH U.vm) (h : w.before A s = true) : w.before A' U = true := by
  unfold q_bad at hb
  split at hb
  · exact va_AO.use (va_AO.moved hW.alike (va_AO.of h))
  · exact q_AOA hW.alike h
  · exact va_Nw.use rfl (va_Nw.warmC hW (va_Nw.of rfl h))
  · exact va_Nw.use rfl (va_Nw.warmM hW (va_Nw.of rfl h))
  · cases hb
/-! ===== THE WORLD OF A MEMORY ===== -/
/-- script's address, first new address; classes and slots; array classes -/
abbrev q_G : Type := (Nat × Nat) × va_G × (Nat → ClassId)
def q_ad (G : q_G) (a : Nat) : Nat := if a = 0 then G.1.1 else G.1.2 + (a - 1)
def q_vv (G : q_G) (v : q_V) : Value := match v with
  | .inl x => .int x
  | .inr (.inl x) => .long x
  | .inr (.inr r) => va_rf (r.map (q_ad G))
def q_kd (ty : FieldType) : Nat := match ty with
  | .int => 1
  | .long => 2
  | _ => 3
def q_ty (t : Nat) : Nat → FieldType := match t with
  | 0 => tyX0
  | 1 => tyX1
  | 2 => tyX2
  | 3 => tyX3
  | 4 => tyX4
  | 5 => tyX5
  | 6 => tyX6
  | 7 => tyX7
  | 8 => tyX8
  | 9 => tyX9
  | 10 => tyX10
  | 11 => tyX11
  | _ => tyX12
def q_T1 (t : Nat) : u_T := match t with
  | 0 => TX0
  | 1 => TX1
  | 2 => TX2
  | 3 => TX3
  | 4 => TX4
  | 5 => TX5
  | 6 => TX6
  | 7 => TX7
  | 8 => TX8
  | 9 => TX9
  | 10 => TX10
  | 11 => TX11
  | _ => TX12
def q_R1 (t : Nat) : String := match t with
  | 0 => RX0
  | 1 => RX1
  | 2 => RX2
  | 3 => RX3
  | 4 => RX4
  | 5 => RX5
  | 6 => RX6
  | 7 => RX7
  | 8 => RX8
  | 9 => RX9
  | 10 => RX10
  | 11 => RX11
  | _ => RX12
theorem q_13 {P : Nat → Prop} (h0 : P 0) (h1 : P 1) (h2 : P 2) (h3 : P 3) (h4 : P 4) (h5 : P 5) (h6 : P 6) (h7 : P 7) (h8 : P 8) (h9 : P 9) (h10 : P 10) (h11 : P 11) (h12 : P 12) : ∀ t, t < 13 → P t := by
  intro t ht
  match t, ht with
  | 0, _ => exact h0
  | 1, _ => exact h1
  | 2, _ => exact h2
  | 3, _ => exact h3
  | 4, _ => exact h4
  | 5, _ => exact h5
  | 6, _ => exact h6
  | 7, _ => exact h7
  | 8, _ => exact h8
  | 9, _ => exact h9
  | 10, _ => exact h10
  | 11, _ => exact h11
  | 12, _ => exact h12
  | n + 13, h => exact absurd h (by omega)
theorem q_clt : ∀ t, t < 13 → q_cl[t]? = some (q_R1 t, q_T1 t, q_nf t) := q_13 rfl rfl rfl rfl rfl rfl rfl rfl rfl rfl rfl rfl rfl
theorem q_nmt : ∀ t, t < 13 → ∀ a, a < q_nf t → ∀ b, b < q_nf t → a ≠ b → (q_T1 t a).2.1 ≠ (q_T1 t b).2.1 := q_13 nmX0 nmX1 nmX2 nmX3 nmX4 nmX5 nmX6 nmX7 nmX8 nmX9 nmX10 nmX11 nmX12
theorem q_tyt : ∀ t, t < 13 → ∀ k, k < q_nf t → parseFieldDescriptor (q_T1 t k).2.2.1 = some (q_ty t k) := q_13 tyX0_ok tyX1_ok tyX2_ok tyX3_ok tyX4_ok tyX5_ok tyX6_ok tyX7_ok tyX8_ok tyX9_ok tyX10_ok tyX11_ok tyX12_ok
def q_fv (G : q_G) (M : q_M) (a k d : Nat) : Value := match d with
  | 1 => .int (M.2.2.1 a k)
  | 2 => .long (M.2.2.2.1 a k)
  | _ => va_rf ((M.2.2.2.2.1 a k).map (q_ad G))
def q_fs (G : q_G) (M : q_M) (a t : Nat) : List Value := (List.range (q_nf t)).map fun k => q_fv G M a k (q_kd (q_ty t k))
def q_cell (G : q_G) (M : q_M) (a : Nat) : va_E :=
  if M.1 a < 13 then .inr (M.1 a, q_fs G M a (M.1 a))
  else if M.1 a = 15 then .inl (G.2.2 15, M.2.1 a, .inr (.inl (M.2.2.2.1 a)))
  else if M.1 a < 17 then .inl (G.2.2 (M.1 a), M.2.1 a, .inl (M.2.2.1 a))
  else .inl (G.2.2 (M.1 a), M.2.1 a, .inr (.inr (.inr (.inr fun k => (M.2.2.2.2.1 a k).map (q_ad G)))))
def q_ws (G : q_G) (M : q_M) : va_W := (List.range (M.2.2.2.2.2.1 - 1)).map fun i => (G.1.2 + i, q_cell G M (i + 1))
def q_A (G : q_G) : Nat → Prop := fun q => G.1.2 ≤ q
def q_mo (M : q_M) : Prop := 1 ≤ M.2.2.2.2.2.1 ∧ M.1 0 = 23 ∧ (∀ a, 1 ≤ a → a < M.2.2.2.2.2.1 → M.1 a ≤ 22) ∧ ∀ a, M.2.2.2.2.2.1 ≤ a → 24 ≤ M.1 a
def q_In (G : q_G) (L : Nat) (xs : Nat → Int32) (M : q_M) (H : Heap) : Prop := va_P G.2.1 q_cl (q_ws G M) H ∧ q_mo M ∧ M.2.1 0 = L ∧ M.2.2.1 0 = xs
def q_tys (G : q_G) : List (ClassId × FieldType) := [(G.2.2 13, .byte), (G.2.2 14, .int), (G.2.2 15, .long), (G.2.2 16, .boolean), (G.2.2 17, .object "CurveShelf$Curve"), (G.2.2 18, .object "CurveShelf$Point"), (G.2.2 19, .object "CurveShelf$Row"), (G.2.2 20, .object "CurveShelf$Shelf"), (G.2.2 21, .object "CurveShelf$State"), (G.2.2 22, .array .int)]
def q_aty (t : Nat) : FieldType := match t with
  | 13 => .byte
  | 14 => .int
  | 15 => .long
  | 16 => .boolean
  | 17 => .object "CurveShelf$Curve"
  | 18 => .object "CurveShelf$Point"
  | 19 => .object "CurveShelf$Row"
  | 20 => .object "CurveShelf$Shelf"
  | 21 => .object "CurveShelf$State"
  | _ => .array .int
theorem q_tyq (G : q_G) : ∀ t, 13 ≤ t → t ≤ 22 → (q_tys G)[t - 13]? = some (G.2.2 t, q_aty t) := by
  intro t h1 h2
  match t, h1, h2 with
  | 13, _, _ => rfl
  | 14, _, _ => rfl
  | 15, _, _ => rfl
  | 16, _, _ => rfl
  | 17, _, _ => rfl
  | 18, _, _ => rfl
  | 19, _, _ => rfl
  | 20, _, _ => rfl
  | 21, _, _ => rfl
  | 22, _, _ => rfl
  | n + 23, _, h => exact absurd h (by omega)
theorem q_mo.lo {M : q_M} (h : q_mo M) {a : Nat} (ha : M.1 a ≤ 22) : 1 ≤ a ∧ a < M.2.2.2.2.2.1 := by
  obtain ⟨h1, h2, h3, h4⟩ := h
  refine ⟨?_, ?_⟩
  · rcases Nat.eq_zero_or_pos a with rfl | q
    · omega
    · exact q
  · rcases Nat.lt_or_ge a M.2.2.2.2.2.1 with q | q
    · exact q
    · have := h4 a q
      omega
theorem q_ad_of (G : q_G) {a : Nat} (h : 1 ≤ a) : q_ad G a = G.1.2 + (a - 1) := by
  unfold q_ad
  rw [if_neg (by omega)]
theorem q_ws_len (G : q_G) (M : q_M) : (q_ws G M).length = M.2.2.2.2.2.1 - 1 := by simp [q_ws]
theorem q_ws_at {G : q_G} {M : q_M} {a : Nat} (h1 : 1 ≤ a) (h2 : a < M.2.2.2.2.2.1) : (q_ws G M)[a - 1]? = some (q_ad G a, q_cell G M a) := by
  unfold q_ws
  rw [List.getElem?_map, List.getElem?_range (by omega), q_ad_of G h1]
  simp only [Option.map_some]
  rw [Nat.sub_add_cancel h1]
theorem q_ws_D (G : q_G) (M : q_M) : va_D (q_A G) (q_ws G M) := by
  have key : ∀ (k : Nat) (q : Nat × va_E), (q_ws G M)[k]? = some q → q.1 = G.1.2 + k := by
    intro k q hk
    have hl := (List.getElem?_eq_some_iff.mp hk).1
    rw [q_ws_len] at hl
    unfold q_ws at hk
    rw [List.getElem?_map, List.getElem?_range hl] at hk
    simp only [Option.map_some, Option.some.injEq] at hk
    rw [← hk]
  refine ⟨fun i j p q hi hj e => ?_, fun k q hk => ?_⟩
  · have := key i p hi
    have := key j q hj
    omega
  · have := key k q hk
    show G.1.2 ≤ q.1
    omega
/-- one cell changes -/
theorem q_ws_set {G : q_G} {M M1 : q_M} {a : Nat} (hn : M1.2.2.2.2.2.1 = M.2.2.2.2.2.1) (h1 : 1 ≤ a) (ho : ∀ i, i ≠ a → q_cell G M1 i = q_cell G M i) : q_ws G M1 = (q_ws G M).set (a - 1) (q_ad G a, q_cell G M1 a) := by
  apply List.ext_getElem?
  intro i
  rw [List.getElem?_set]
  unfold q_ws
  rw [hn]
  simp only [List.getElem?_map, List.length_map, List.length_range]
  by_cases hi : a - 1 = i
  · subst hi
    rw [if_pos rfl]
    by_cases hl : a - 1 < M.2.2.2.2.2.1 - 1
    · rw [if_pos hl, List.getElem?_range hl, q_ad_of G h1]
      simp only [Option.map_some]
      rw [Nat.sub_add_cancel h1]
    · rw [if_neg hl, List.getElem?_eq_none (by simpa using hl)]
      rfl
  · rw [if_neg hi]
    by_cases hl : i < M.2.2.2.2.2.1 - 1
    · rw [List.getElem?_range hl]
      simp only [Option.map_some]
      rw [ho (i + 1) (by omega)]
    · rw [List.getElem?_eq_none (by simpa using hl)]
      rfl
/-- a cell comes -/
theorem q_ws_push {G : q_G} {M M1 : q_M} (h1 : 1 ≤ M.2.2.2.2.2.1) (hn : M1.2.2.2.2.2.1 = M.2.2.2.2.2.1 + 1) (ho : ∀ i, i < M.2.2.2.2.2.1 → q_cell G M1 i = q_cell G M i) : q_ws G M1 = q_ws G M ++ [(G.1.2 + (M.2.2.2.2.2.1 - 1), q_cell G M1 M.2.2.2.2.2.1)] := by
  unfold q_ws
  rw [hn, show M.2.2.2.2.2.1 + 1 - 1 = (M.2.2.2.2.2.1 - 1) + 1 by omega, List.range_succ, List.map_append]
  congr 1
  · apply List.map_congr_left
    intro i hi
    have := List.mem_range.mp hi
    rw [ho (i + 1) (by omega)]
  · simp only [List.map_cons, List.map_nil]
    rw [Nat.sub_add_cancel h1]
theorem q_fs_at {G : q_G} {M : q_M} {a t k : Nat} (hk : k < q_nf t) : (q_fs G M a t)[k]? = some (q_fv G M a k (q_kd (q_ty t k))) := by
  unfold q_fs
  rw [List.getElem?_map, List.getElem?_range hk]
  rfl
theorem q_fs_len (G : q_G) (M : q_M) (a t : Nat) : (q_fs G M a t).length = q_nf t := by simp [q_fs]
theorem q_fs_set {G : q_G} {M M1 : q_M} {a t k : Nat} {v : Value} (hv : q_fv G M1 a k (q_kd (q_ty t k)) = v) (ho : ∀ j, j ≠ k → q_fv G M1 a j (q_kd (q_ty t j)) = q_fv G M a j (q_kd (q_ty t j))) : (q_fs G M a t).set k v = q_fs G M1 a t := by
  apply List.ext_getElem?
  intro i
  rw [List.getElem?_set, q_fs_len]
  by_cases hi : k = i
  · subst hi
    rw [if_pos rfl]
    by_cases hl : k < q_nf t
    · rw [if_pos hl, q_fs_at hl, hv]
    · rw [if_neg hl, List.getElem?_eq_none (by rw [q_fs_len]; omega)]
  · rw [if_neg hi]
    by_cases hl : i < q_nf t
    · rw [q_fs_at hl, q_fs_at hl, ho i (Ne.symm hi)]
    · rw [List.getElem?_eq_none (by rw [q_fs_len]; omega), List.getElem?_eq_none (by rw [q_fs_len]; omega)]
/-- locals -/
def q_ll (G : q_G) (ls : q_L) : List (Nat × Value) := (List.range ls.length).filterMap fun i => (q_nth ls i).map fun v => (i, q_vv G v)
def q_Lr (G : q_G) (lsA : Array Slot) (ls : q_L) : Prop := lv_has lsA ls.length (q_ll G ls)
theorem q_nth_lt : ∀ {ls : q_L} {i : Nat} {v : q_V}, q_nth ls i = some v → i < ls.length
  | [], _, _, h => by cases h
  | _ :: _, 0, _, _ => Nat.succ_pos _
  | _ :: r, n + 1, _, h => Nat.succ_lt_succ (q_nth_lt (ls := r) h)
theorem q_ll_mem {G : q_G} {ls : q_L} {q : Nat × Value} : q ∈ q_ll G ls ↔ ∃ v, q_nth ls q.1 = some v ∧ q.2 = q_vv G v := by
  unfold q_ll
  rw [List.mem_filterMap]
  constructor
  · rintro ⟨i, hi, h⟩
    obtain ⟨v, h1, h2⟩ := Option.map_eq_some_iff.mp h
    subst h2
    exact ⟨v, h1, rfl⟩
  · rintro ⟨v, h1, h2⟩
    exact ⟨q.1, List.mem_range.mpr (q_nth_lt h1), by rw [h1]; simp [← h2]⟩
theorem q_Lr.at {G : q_G} {lsA : Array Slot} {ls : q_L} (h : q_Lr G lsA ls) {i : Nat} {v : q_V} (hi : q_nth ls i = some v) : lsA[i]? = some (.val (q_vv G v)) := h.2.2 (i, q_vv G v) (q_ll_mem.mpr ⟨v, hi, rfl⟩)
theorem q_cat2 (G : q_G) (v : q_V) : (q_vv G v).category = 2 ↔ ∃ x, v = .inr (.inl x) := by
  rcases v with x | x | r
  · simp [q_vv, Value.category]
  · simp [q_vv, Value.category]
  · cases r <;> simp [q_vv, va_rf, Value.category]
theorem q_set1_len : ∀ (ls : q_L) (i : Nat) (v : q_V), (q_set1 ls i v).length = ls.length
  | [], _, _ => rfl
  | _ :: _, 0, _ => rfl
  | _ :: r, 1, v => by simp [q_set1, q_set1_len r 0 v]
  | _ :: r, n + 2, v => by simp [q_set1, q_set1_len r (n + 1) v]
theorem q_drop1_len (r : q_L) : (q_drop1 r).length = r.length := by cases r <;> rfl
theorem q_set2_len : ∀ (ls : q_L) (i : Nat) (v : q_V), (q_set2 ls i v).length = ls.length
  | [], _, _ => rfl
  | _ :: r, 0, v => by simp [q_set2, q_drop1_len]
  | _ :: r, 1, v => by simp [q_set2, q_set2_len r 0 v]
  | _ :: r, n + 2, v => by simp [q_set2, q_set2_len r (n + 1) v]
theorem q_kill_some {a : Option q_V} {w : q_V} (h : q_kill a = some w) : a = some w ∧ ¬ ∃ x, w = .inr (.inl x) := by
  rcases a with _ | (x | x | r)
  · cases h
  · cases h
    exact ⟨rfl, by rintro ⟨_, h⟩; cases h⟩
  · cases h
  · cases h
    exact ⟨rfl, by rintro ⟨_, h⟩; cases h⟩
theorem q_set1_at : ∀ (ls : q_L) (i : Nat) (v : q_V) {j : Nat} {w : q_V}, q_nth (q_set1 ls i v) j = some w → (j = i ∧ w = v) ∨ (j ≠ i ∧ q_nth ls j = some w ∧ (j + 1 = i → ¬ ∃ x, w = .inr (.inl x)))
  | [], _, _, _, _, h => by cases h
  | a :: r, 0, v, j, w, h => by
    cases j with
    | zero =>
      have h : some v = some w := h
      cases h
      exact Or.inl ⟨rfl, rfl⟩
    | succ j => exact Or.inr ⟨by omega, h, by omega⟩
  | a :: r, 1, v, j, w, h => by
    cases j with
    | zero =>
      obtain ⟨h1, h2⟩ := q_kill_some (show q_kill a = some w from h)
      exact Or.inr ⟨by omega, h1, fun _ => h2⟩
    | succ j =>
      rcases q_set1_at r 0 v (show q_nth (q_set1 r 0 v) j = some w from h) with ⟨h1, h2⟩ | ⟨h1, h2, h3⟩
      · exact Or.inl ⟨by omega, h2⟩
      · exact Or.inr ⟨by omega, h2, by omega⟩
  | a :: r, n + 2, v, j, w, h => by
    cases j with
    | zero => exact Or.inr ⟨by omega, h, by omega⟩
    | succ j =>
      rcases q_set1_at r (n + 1) v (show q_nth (q_set1 r (n + 1) v) j = some w from h) with ⟨h1, h2⟩ | ⟨h1, h2, h3⟩
      · exact Or.inl ⟨by omega, h2⟩
      · exact Or.inr ⟨by omega, h2, fun e => h3 (by omega)⟩
theorem q_drop1_at {r : q_L} {j : Nat} {w : q_V} (h : q_nth (q_drop1 r) j = some w) : j ≠ 0 ∧ q_nth r j = some w := by
  cases r with
  | nil => cases h
  | cons a r =>
    cases j with
    | zero => cases h
    | succ j => exact ⟨by omega, h⟩
theorem q_set2_at : ∀ (ls : q_L) (i : Nat) (v : q_V) {j : Nat} {w : q_V}, q_nth (q_set2 ls i v) j = some w → (j = i ∧ w = v) ∨ (j ≠ i ∧ j ≠ i + 1 ∧ q_nth ls j = some w ∧ (j + 1 = i → ¬ ∃ x, w = .inr (.inl x)))
  | [], _, _, _, _, h => by cases h
  | a :: r, 0, v, j, w, h => by
    cases j with
    | zero =>
      have h : some v = some w := h
      cases h
      exact Or.inl ⟨rfl, rfl⟩
    | succ j =>
      obtain ⟨h1, h2⟩ := q_drop1_at (show q_nth (q_drop1 r) j = some w from h)
      exact Or.inr ⟨by omega, by omega, h2, by omega⟩
  | a :: r, 1, v, j, w, h => by
    cases j with
    | zero =>
      obtain ⟨h1, h2⟩ := q_kill_some (show q_kill a = some w from h)
      exact Or.inr ⟨by omega, by omega, h1, fun _ => h2⟩
    | succ j =>
      rcases q_set2_at r 0 v (show q_nth (q_set2 r 0 v) j = some w from h) with ⟨h1, h2⟩ | ⟨h1, h2, h3, h4⟩
      · exact Or.inl ⟨by omega, h2⟩
      · exact Or.inr ⟨by omega, by omega, h3, by omega⟩
  | a :: r, n + 2, v, j, w, h => by
    cases j with
    | zero => exact Or.inr ⟨by omega, by omega, h, by omega⟩
    | succ j =>
      rcases q_set2_at r (n + 1) v (show q_nth (q_set2 r (n + 1) v) j = some w from h) with ⟨h1, h2⟩ | ⟨h1, h2, h3, h4⟩
      · exact Or.inl ⟨by omega, h2⟩
      · exact Or.inr ⟨by omega, by omega, h3, fun e => h4 (by omega)⟩
theorem q_Lr.set1 {G : q_G} {lsA : Array Slot} {ls : q_L} {i : Nat} {v : q_V} (h : lv_has lsA ls.length ((i, q_vv G v) :: (q_ll G ls).filter (fun q => !(q.1 == i) && !(q.1 + 1 == i && q.2.category == 2)))) : q_Lr G lsA (q_set1 ls i v) := by
  unfold q_Lr
  rw [q_set1_len]
  refine ⟨h.1, h.2.1, fun q hq => h.2.2 q ?_⟩
  obtain ⟨w, h1, h2⟩ := q_ll_mem.mp hq
  rcases q_set1_at ls i v h1 with ⟨e1, e2⟩ | ⟨e1, e2, e3⟩
  · subst e2
    have : q = (i, q_vv G w) := Prod.ext e1 h2
    rw [this]
    exact List.mem_cons_self
  · refine List.mem_cons_of_mem _ (List.mem_filter.mpr ⟨q_ll_mem.mpr ⟨w, e2, h2⟩, ?_⟩)
    have hc : ¬ (q.1 + 1 = i ∧ q.2.category = 2) := fun hh => e3 hh.1 ((q_cat2 G w).mp (h2 ▸ hh.2))
    simp only [Bool.and_eq_true, Bool.not_eq_true', beq_eq_false_iff_ne, ne_eq, Bool.and_eq_false_iff]
    refine ⟨e1, ?_⟩
    by_cases h3 : q.1 + 1 = i
    · exact Or.inr fun h4 => hc ⟨h3, h4⟩
    · exact Or.inl h3
theorem q_Lr.set2 {G : q_G} {lsA : Array Slot} {ls : q_L} {i : Nat} {v : q_V} (h : lv_has lsA ls.length ((i, q_vv G v) :: (q_ll G ls).filter (fun q => !(q.1 == i) && (!(q.1 == i + 1) && !(q.1 + 1 == i && q.2.category == 2))))) : q_Lr G lsA (q_set2 ls i v) := by
  unfold q_Lr
  rw [q_set2_len]
  refine ⟨h.1, h.2.1, fun q hq => h.2.2 q ?_⟩
  obtain ⟨w, h1, h2⟩ := q_ll_mem.mp hq
  rcases q_set2_at ls i v h1 with ⟨e1, e2⟩ | ⟨e1, e0, e2, e3⟩
  · subst e2
    have : q = (i, q_vv G w) := Prod.ext e1 h2
    rw [this]
    exact List.mem_cons_self
  · refine List.mem_cons_of_mem _ (List.mem_filter.mpr ⟨q_ll_mem.mpr ⟨w, e2, h2⟩, ?_⟩)
    have hc : ¬ (q.1 + 1 = i ∧ q.2.category = 2) := fun hh => e3 hh.1 ((q_cat2 G w).mp (h2 ▸ hh.2))
    simp only [Bool.and_eq_true, Bool.not_eq_true', beq_eq_false_iff_ne, ne_eq, Bool.and_eq_false_iff]
    refine ⟨e1, e0, ?_⟩
    by_cases h3 : q.1 + 1 = i
    · exact Or.inr fun h4 => hc ⟨h3, h4⟩
    · exact Or.inl h3
