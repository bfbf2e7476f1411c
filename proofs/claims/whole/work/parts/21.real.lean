/-! ===== STEPS: what the machine does at an instruction, over a memory's world ===== -/
def q_Cx (G : q_G) (L : Nat) (xs : Nat → Int32) (y : MethodName) (bytes : ByteArray) (maxL : Nat) (p : Program) (s : State) (m : MethodId) (args : Array Value) (meth : Method) (c : Code) : Prop :=
  p.tables.exec = Jvm.exec ∧ c.code = bytes ∧ c.maxLocals = maxL ∧ s.vm.findClass y.cls = some m.cls ∧ (∀ w ∈ q_wt, w.before args s = true) ∧ (y.name = "<init>" → meth.name = "<init>") ∧ va_K G.2.1 q_cl (q_tys G) s ∧ va_X G.1.1 L xs s s.heap ∧ G.1.1 < s.heap.size ∧ G.1.1 < G.1.2 ∧ G.1.2 ≤ s.heap.size
def q_Re (l : Launch) (G : q_G) (L : Nat) (xs : Nat → Int32) (y : MethodName) (bytes : ByteArray) (fr lo : Nat) (pc : Nat) (ls : q_L) (st : List q_V) (M : q_M) (pc1 : Nat) (ls1 : q_L) (st1 : List q_V) (M1 : q_M) : Prop :=
  ∀ (p : Program) (e : Env) (R : Room) (s : State) (m : MethodId) (args : Array Value) (below : List Frame) (meth : Method) (c : Code), q_Cx G L xs y bytes ls.length p s m args meth c → fr ≤ R.frames → lo ≤ R.locals →
  ∀ (H : Heap) (locs : List Loc) (cells slots : Nat) (Q : State → Prop) (lsA : Array Slot), q_Lr G lsA ls → q_In G L xs M H → va_S (q_A G) s.heap H locs → s.heap.size + cells = G.1.2 + (M.2.2.2.2.2.1 - 1) →
  cells + (M1.2.2.2.2.2.1 - M.2.2.2.2.2.1) ≤ R.cells → slots + (M1.2.2.2.2.2.2 - M.2.2.2.2.2.2) ≤ R.slots →
  (∀ (H1 : Heap) (locs1 : List Loc) (lsA1 : Array Slot), q_Lr G lsA1 ls1 → q_In G L xs M1 H1 → va_S (q_A G) s.heap H1 locs1 → W p l e R s m args below meth c H1 locs1 (cells + (M1.2.2.2.2.2.1 - M.2.2.2.2.2.1)) (slots + (M1.2.2.2.2.2.2 - M.2.2.2.2.2.2)) Q (F0 m pc1 lsA1 (st1.map (q_vv G)))) →
  W p l e R s m args below meth c H locs cells slots Q (F0 m pc lsA (st.map (q_vv G)))
section QR
variable {l : Launch} {G : q_G} {L : Nat} {xs : Nat → Int32} {y : MethodName} {bytes : ByteArray} {fr lo : Nat} {pc : Nat} {ls : q_L} {st : List q_V} {M : q_M} {pc1 : Nat} {ls1 : q_L} {st1 : List q_V} {M1 : q_M}
/-- memory stays -/
theorem q_Re.pure (h : ∀ (p : Program) (e : Env) (R : Room) (s : State) (m : MethodId) (args : Array Value) (below : List Frame) (meth : Method) (c : Code), q_Cx G L xs y bytes ls.length p s m args meth c → fr ≤ R.frames → lo ≤ R.locals →
  ∀ (H : Heap) (locs : List Loc) (cells slots : Nat) (Q : State → Prop) (lsA : Array Slot), q_Lr G lsA ls → q_In G L xs M H → va_S (q_A G) s.heap H locs →
  (∀ lsA1 : Array Slot, q_Lr G lsA1 ls1 → W p l e R s m args below meth c H locs cells slots Q (F0 m pc1 lsA1 (st1.map (q_vv G)))) →
  W p l e R s m args below meth c H locs cells slots Q (F0 m pc lsA (st.map (q_vv G)))) : q_Re l G L xs y bytes fr lo pc ls st M pc1 ls1 st1 M := by
  intro p e R s m args below meth c X hfr hlo H locs cells slots Q lsA hl hI hS hz h1 h2 k
  refine h p e R s m args below meth c X hfr hlo H locs cells slots Q lsA hl hI hS fun lsA1 hl1 => ?_
  have k1 := k H locs lsA1 hl1 hI hS
  rw [Nat.sub_self, Nat.sub_self] at k1
  exact k1
/-- memory and locals stay -/
theorem q_Re.top (h : ∀ (p : Program) (e : Env) (R : Room) (s : State) (m : MethodId) (args : Array Value) (below : List Frame) (meth : Method) (c : Code), q_Cx G L xs y bytes ls.length p s m args meth c → fr ≤ R.frames → lo ≤ R.locals →
  ∀ (H : Heap) (locs : List Loc) (cells slots : Nat) (Q : State → Prop) (lsA : Array Slot), q_Lr G lsA ls → q_In G L xs M H → va_S (q_A G) s.heap H locs →
  W p l e R s m args below meth c H locs cells slots Q (F0 m pc1 lsA (st1.map (q_vv G))) →
  W p l e R s m args below meth c H locs cells slots Q (F0 m pc lsA (st.map (q_vv G)))) : q_Re l G L xs y bytes fr lo pc ls st M pc1 ls st1 M :=
  q_Re.pure fun p e R s m args below meth c X hfr hlo H locs cells slots Q lsA hl hI hS k => h p e R s m args below meth c X hfr hlo H locs cells slots Q lsA hl hI hS (k lsA hl)
/-- memory changes, nothing is made -/
theorem q_Re.mem (hn : M1.2.2.2.2.2.1 = M.2.2.2.2.2.1) (hs : M1.2.2.2.2.2.2 = M.2.2.2.2.2.2) (h : ∀ (p : Program) (e : Env) (R : Room) (s : State) (m : MethodId) (args : Array Value) (below : List Frame) (meth : Method) (c : Code), q_Cx G L xs y bytes ls.length p s m args meth c → fr ≤ R.frames → lo ≤ R.locals →
  ∀ (H : Heap) (locs : List Loc) (cells slots : Nat) (Q : State → Prop) (lsA : Array Slot), q_Lr G lsA ls → q_In G L xs M H → va_S (q_A G) s.heap H locs →
  (∀ (H1 : Heap) (locs1 : List Loc), q_In G L xs M1 H1 → va_S (q_A G) s.heap H1 locs1 → W p l e R s m args below meth c H1 locs1 cells slots Q (F0 m pc1 lsA (st1.map (q_vv G)))) →
  W p l e R s m args below meth c H locs cells slots Q (F0 m pc lsA (st.map (q_vv G)))) : q_Re l G L xs y bytes fr lo pc ls st M pc1 ls st1 M1 := by
  intro p e R s m args below meth c X hfr hlo H locs cells slots Q lsA hl hI hS hz h1 h2 k
  refine h p e R s m args below meth c X hfr hlo H locs cells slots Q lsA hl hI hS fun H1 locs1 hI1 hS1 => ?_
  have k1 := k H1 locs1 lsA hl hI1 hS1
  rw [hn, hs, Nat.sub_self, Nat.sub_self] at k1
  exact k1
theorem q_r_iconst {n : Int} {v : Int32} (hd : decode bytes pc = .ok (.iconst n, 1)) (hv : Int32.ofInt n = v) : q_Re l G L xs y bytes fr lo pc ls (st) M (pc + 1) ls (.inl v :: st) M := by
  refine q_Re.top ?_
  intro p e R s m args below meth c X hfr hlo H locs cells slots Q lsA hl hI hS k
  exact lv_iconst X.1 X.2.1 hd hv k
theorem q_r_bipush {n : Int} {v : Int32} (hd : decode bytes pc = .ok (.bipush n, 2)) (hv : (Int8.ofInt n).toInt32 = v) : q_Re l G L xs y bytes fr lo pc ls (st) M (pc + 2) ls (.inl v :: st) M := by
  refine q_Re.top ?_
  intro p e R s m args below meth c X hfr hlo H locs cells slots Q lsA hl hI hS k
  exact lv_bipush X.1 X.2.1 hd hv k
theorem q_r_sipush {n : Int} {v : Int32} (hd : decode bytes pc = .ok (.sipush n, 3)) (hv : (Int16.ofInt n).toInt32 = v) : q_Re l G L xs y bytes fr lo pc ls (st) M (pc + 3) ls (.inl v :: st) M := by
  refine q_Re.top ?_
  intro p e R s m args below meth c X hfr hlo H locs cells slots Q lsA hl hI hS k
  exact lv_sipush X.1 X.2.1 hd hv k
theorem q_r_lconst {n : Fin 2} (hd : decode bytes pc = .ok (.lconst n, 1)) : q_Re l G L xs y bytes fr lo pc ls (st) M (pc + 1) ls (.inr (.inl (Int64.ofNat n.val)) :: st) M := by
  refine q_Re.top ?_
  intro p e R s m args below meth c X hfr hlo H locs cells slots Q lsA hl hI hS k
  exact lv_lconst X.1 X.2.1 hd rfl k
theorem q_r_ldc {n : Nat} {v : Int32} (hd : decode bytes pc = .ok (.ldc n, 2)) (hv : Cond.constant y.cls n v ∈ q_wt) : q_Re l G L xs y bytes fr lo pc ls (st) M (pc + 2) ls (.inl v :: st) M := by
  refine q_Re.top ?_
  intro p e R s m args below meth c X hfr hlo H locs cells slots Q lsA hl hI hS k
  exact lv_ldc X.1 X.2.1 X.2.2.2.1 (X.2.2.2.2.1 _ hv) hd k
theorem q_r_ldcw {n : Nat} {v : Int32} (hd : decode bytes pc = .ok (.ldc_w n, 3)) (hv : Cond.constant y.cls n v ∈ q_wt) : q_Re l G L xs y bytes fr lo pc ls (st) M (pc + 3) ls (.inl v :: st) M := by
  refine q_Re.top ?_
  intro p e R s m args below meth c X hfr hlo H locs cells slots Q lsA hl hI hS k
  exact lv_ldcw X.1 X.2.1 X.2.2.2.1 (X.2.2.2.2.1 _ hv) hd k
theorem q_r_ldc2 {n : Nat} {v : Int64} (hd : decode bytes pc = .ok (.ldc2_w n, 3)) (hv : Cond.constantLong y.cls n v ∈ q_wt) : q_Re l G L xs y bytes fr lo pc ls (st) M (pc + 3) ls (.inr (.inl v) :: st) M := by
  refine q_Re.top ?_
  intro p e R s m args below meth c X hfr hlo H locs cells slots Q lsA hl hI hS k
  exact lv_ldc2 X.1 X.2.1 X.2.2.2.1 (X.2.2.2.2.1 _ hv) hd k
theorem q_r_null (hd : decode bytes pc = .ok (.aconst_null, 1)) : q_Re l G L xs y bytes fr lo pc ls (st) M (pc + 1) ls (.inr (.inr none) :: st) M := by
  refine q_Re.top ?_
  intro p e R s m args below meth c X hfr hlo H locs cells slots Q lsA hl hI hS k
  exact lv_null X.1 X.2.1 hd k
theorem q_r_iload_n {n : Fin 4} {x : Int32} (hd : decode bytes pc = .ok (.iload_n n, 1)) (hv : q_nth ls n.val = some (.inl x)) : q_Re l G L xs y bytes fr lo pc ls (st) M (pc + 1) ls (.inl x :: st) M := by
  refine q_Re.top ?_
  intro p e R s m args below meth c X hfr hlo H locs cells slots Q lsA hl hI hS k
  exact lv_iload_n X.1 X.2.1 hd rfl (hl.at hv) k
theorem q_r_iload {n : Nat} {x : Int32} (hd : decode bytes pc = .ok (.iload n, 2)) (hv : q_nth ls n = some (.inl x)) : q_Re l G L xs y bytes fr lo pc ls (st) M (pc + 2) ls (.inl x :: st) M := by
  refine q_Re.top ?_
  intro p e R s m args below meth c X hfr hlo H locs cells slots Q lsA hl hI hS k
  exact lv_iload X.1 X.2.1 hd (hl.at hv) k
theorem q_r_lload_n {n : Fin 4} {x : Int64} (hd : decode bytes pc = .ok (.lload_n n, 1)) (hv : q_nth ls n.val = some (.inr (.inl x))) : q_Re l G L xs y bytes fr lo pc ls (st) M (pc + 1) ls (.inr (.inl x) :: st) M := by
  refine q_Re.top ?_
  intro p e R s m args below meth c X hfr hlo H locs cells slots Q lsA hl hI hS k
  exact lv_lload_n X.1 X.2.1 hd rfl (hl.at hv) k
theorem q_r_lload {n : Nat} {x : Int64} (hd : decode bytes pc = .ok (.lload n, 2)) (hv : q_nth ls n = some (.inr (.inl x))) : q_Re l G L xs y bytes fr lo pc ls (st) M (pc + 2) ls (.inr (.inl x) :: st) M := by
  refine q_Re.top ?_
  intro p e R s m args below meth c X hfr hlo H locs cells slots Q lsA hl hI hS k
  exact lv_lload X.1 X.2.1 hd (hl.at hv) k
theorem q_r_aload_n {n : Fin 4} {x : Option Nat} (hd : decode bytes pc = .ok (.aload_n n, 1)) (hv : q_nth ls n.val = some (.inr (.inr x))) : q_Re l G L xs y bytes fr lo pc ls (st) M (pc + 1) ls (.inr (.inr x) :: st) M := by
  refine q_Re.top ?_
  intro p e R s m args below meth c X hfr hlo H locs cells slots Q lsA hl hI hS k
  cases x with
  | none => exact lv_aload_nN X.1 X.2.1 hd rfl (hl.at hv) k
  | some a => exact lv_aload_n X.1 X.2.1 hd rfl (hl.at hv) k
theorem q_r_aload {n : Nat} {x : Option Nat} (hd : decode bytes pc = .ok (.aload n, 2)) (hv : q_nth ls n = some (.inr (.inr x))) : q_Re l G L xs y bytes fr lo pc ls (st) M (pc + 2) ls (.inr (.inr x) :: st) M := by
  refine q_Re.top ?_
  intro p e R s m args below meth c X hfr hlo H locs cells slots Q lsA hl hI hS k
  cases x with
  | none => exact lv_aloadN X.1 X.2.1 hd (hl.at hv) k
  | some a => exact lv_aload X.1 X.2.1 hd (hl.at hv) k
theorem q_r_istore_n {n : Fin 4} {x : Int32} (hd : decode bytes pc = .ok (.istore_n n, 1)) (hn : n.val < ls.length) : q_Re l G L xs y bytes fr lo pc ls (.inl x :: st) M (pc + 1) (q_set1 ls n.val (.inl x)) st M := by
  refine q_Re.pure ?_
  intro p e R s m args below meth c X hfr hlo H locs cells slots Q lsA hl hI hS k
  exact lv_istore_n X.1 X.2.1 hd rfl hl hn rfl (fun ls2 h2 => k ls2 (q_Lr.set1 (v := .inl x) h2))
theorem q_r_lstore_n {n : Fin 4} {x : Int64} (hd : decode bytes pc = .ok (.lstore_n n, 1)) (hn : n.val + 1 < ls.length) : q_Re l G L xs y bytes fr lo pc ls (.inr (.inl x) :: st) M (pc + 1) (q_set2 ls n.val (.inr (.inl x))) st M := by
  refine q_Re.pure ?_
  intro p e R s m args below meth c X hfr hlo H locs cells slots Q lsA hl hI hS k
  exact lv_lstore_n X.1 X.2.1 hd rfl hl hn rfl (fun ls2 h2 => k ls2 (q_Lr.set2 (v := .inr (.inl x)) h2))
theorem q_r_astore_n {n : Fin 4} {x : Option Nat} (hd : decode bytes pc = .ok (.astore_n n, 1)) (hn : n.val < ls.length) : q_Re l G L xs y bytes fr lo pc ls (.inr (.inr x) :: st) M (pc + 1) (q_set1 ls n.val (.inr (.inr x))) st M := by
  refine q_Re.pure ?_
  intro p e R s m args below meth c X hfr hlo H locs cells slots Q lsA hl hI hS k
  cases x with
  | none => exact lv_astore_nN X.1 X.2.1 hd rfl hl hn rfl (fun ls2 h2 => k ls2 (q_Lr.set1 (v := .inr (.inr none)) h2))
  | some a => exact lv_astore_n X.1 X.2.1 hd rfl hl hn rfl (fun ls2 h2 => k ls2 (q_Lr.set1 (v := .inr (.inr (some a))) h2))
theorem q_r_istore {n : Nat} {x : Int32} (hd : decode bytes pc = .ok (.istore n, 2)) (hn : n < ls.length) : q_Re l G L xs y bytes fr lo pc ls (.inl x :: st) M (pc + 2) (q_set1 ls n (.inl x)) st M := by
  refine q_Re.pure ?_
  intro p e R s m args below meth c X hfr hlo H locs cells slots Q lsA hl hI hS k
  exact lv_istore X.1 X.2.1 hd hl hn rfl (fun ls2 h2 => k ls2 (q_Lr.set1 (v := .inl x) h2))
theorem q_r_lstore {n : Nat} {x : Int64} (hd : decode bytes pc = .ok (.lstore n, 2)) (hn : n + 1 < ls.length) : q_Re l G L xs y bytes fr lo pc ls (.inr (.inl x) :: st) M (pc + 2) (q_set2 ls n (.inr (.inl x))) st M := by
  refine q_Re.pure ?_
  intro p e R s m args below meth c X hfr hlo H locs cells slots Q lsA hl hI hS k
  exact lv_lstore X.1 X.2.1 hd hl hn rfl (fun ls2 h2 => k ls2 (q_Lr.set2 (v := .inr (.inl x)) h2))
theorem q_r_astore {n : Nat} {x : Option Nat} (hd : decode bytes pc = .ok (.astore n, 2)) (hn : n < ls.length) : q_Re l G L xs y bytes fr lo pc ls (.inr (.inr x) :: st) M (pc + 2) (q_set1 ls n (.inr (.inr x))) st M := by
  refine q_Re.pure ?_
  intro p e R s m args below meth c X hfr hlo H locs cells slots Q lsA hl hI hS k
  cases x with
  | none => exact lv_astoreN X.1 X.2.1 hd hl hn rfl (fun ls2 h2 => k ls2 (q_Lr.set1 (v := .inr (.inr none)) h2))
  | some a => exact lv_astore X.1 X.2.1 hd hl hn rfl (fun ls2 h2 => k ls2 (q_Lr.set1 (v := .inr (.inr (some a))) h2))
theorem q_r_iinc {n : Nat} {d : Int} {x : Int32} (hd : decode bytes pc = .ok (.iinc n d, 3)) (hv : q_nth ls n = some (.inl x)) : q_Re l G L xs y bytes fr lo pc ls st M (pc + 3) (q_set1 ls n (.inl (x + Int32.ofInt d))) st M := by
  refine q_Re.pure ?_
  intro p e R s m args below meth c X hfr hlo H locs cells slots Q lsA hl hI hS k
  obtain ⟨j, hj⟩ := List.getElem?_of_mem (q_ll_mem (G := G) (q := (n, .int x)).mpr ⟨_, hv, rfl⟩)
  exact lv_iinc X.1 X.2.1 hd hl hj rfl (q_nth_lt hv) rfl (fun ls2 h2 => k ls2 (q_Lr.set1 (v := .inl (x + Int32.ofInt d)) h2))
theorem q_r_iadd {x z : Int32} (hd : decode bytes pc = .ok (.iadd, 1)) : q_Re l G L xs y bytes fr lo pc ls (.inl z :: .inl x :: st) M (pc + 1) ls (.inl (x + z) :: st) M := by
  refine q_Re.top ?_
  intro p e R s m args below meth c X hfr hlo H locs cells slots Q lsA hl hI hS k
  exact lv_iadd X.1 X.2.1 hd k
theorem q_r_isub {x z : Int32} (hd : decode bytes pc = .ok (.isub, 1)) : q_Re l G L xs y bytes fr lo pc ls (.inl z :: .inl x :: st) M (pc + 1) ls (.inl (x - z) :: st) M := by
  refine q_Re.top ?_
  intro p e R s m args below meth c X hfr hlo H locs cells slots Q lsA hl hI hS k
  exact lv_isub X.1 X.2.1 hd k
theorem q_r_imul {x z : Int32} (hd : decode bytes pc = .ok (.imul, 1)) : q_Re l G L xs y bytes fr lo pc ls (.inl z :: .inl x :: st) M (pc + 1) ls (.inl (x * z) :: st) M := by
  refine q_Re.top ?_
  intro p e R s m args below meth c X hfr hlo H locs cells slots Q lsA hl hI hS k
  exact lv_imul X.1 X.2.1 hd k
theorem q_r_iand {x z : Int32} (hd : decode bytes pc = .ok (.iand, 1)) : q_Re l G L xs y bytes fr lo pc ls (.inl z :: .inl x :: st) M (pc + 1) ls (.inl (x &&& z) :: st) M := by
  refine q_Re.top ?_
  intro p e R s m args below meth c X hfr hlo H locs cells slots Q lsA hl hI hS k
  exact lv_iand X.1 X.2.1 hd k
theorem q_r_ior {x z : Int32} (hd : decode bytes pc = .ok (.ior, 1)) : q_Re l G L xs y bytes fr lo pc ls (.inl z :: .inl x :: st) M (pc + 1) ls (.inl (x ||| z) :: st) M := by
  refine q_Re.top ?_
  intro p e R s m args below meth c X hfr hlo H locs cells slots Q lsA hl hI hS k
  exact lv_ior X.1 X.2.1 hd k
theorem q_r_ixor {x z : Int32} (hd : decode bytes pc = .ok (.ixor, 1)) : q_Re l G L xs y bytes fr lo pc ls (.inl z :: .inl x :: st) M (pc + 1) ls (.inl (x ^^^ z) :: st) M := by
  refine q_Re.top ?_
  intro p e R s m args below meth c X hfr hlo H locs cells slots Q lsA hl hI hS k
  exact lv_ixor X.1 X.2.1 hd k
theorem q_r_ishl {x z : Int32} (hd : decode bytes pc = .ok (.ishl, 1)) : q_Re l G L xs y bytes fr lo pc ls (.inl z :: .inl x :: st) M (pc + 1) ls (.inl (x <<< (z &&& 31)) :: st) M := by
  refine q_Re.top ?_
  intro p e R s m args below meth c X hfr hlo H locs cells slots Q lsA hl hI hS k
  exact lv_ishl X.1 X.2.1 hd k
theorem q_r_ishr {x z : Int32} (hd : decode bytes pc = .ok (.ishr, 1)) : q_Re l G L xs y bytes fr lo pc ls (.inl z :: .inl x :: st) M (pc + 1) ls (.inl (x >>> (z &&& 31)) :: st) M := by
  refine q_Re.top ?_
  intro p e R s m args below meth c X hfr hlo H locs cells slots Q lsA hl hI hS k
  exact lv_ishr X.1 X.2.1 hd k
theorem q_r_iushr {x z : Int32} (hd : decode bytes pc = .ok (.iushr, 1)) : q_Re l G L xs y bytes fr lo pc ls (.inl z :: .inl x :: st) M (pc + 1) ls (.inl ((x.toUInt32 >>> (z.toUInt32 &&& Int32.toUInt32 31)).toInt32) :: st) M := by
  refine q_Re.top ?_
  intro p e R s m args below meth c X hfr hlo H locs cells slots Q lsA hl hI hS k
  exact lv_iushr X.1 X.2.1 hd rfl k
theorem q_r_idiv {x z : Int32} (hd : decode bytes pc = .ok (.idiv, 1)) (hz : ¬ z = 0) : q_Re l G L xs y bytes fr lo pc ls (.inl z :: .inl x :: st) M (pc + 1) ls (.inl (x / z) :: st) M := by
  refine q_Re.top ?_
  intro p e R s m args below meth c X hfr hlo H locs cells slots Q lsA hl hI hS k
  exact lv_idiv X.1 X.2.1 hd hz k
theorem q_r_irem {x z : Int32} (hd : decode bytes pc = .ok (.irem, 1)) (hz : ¬ z = 0) : q_Re l G L xs y bytes fr lo pc ls (.inl z :: .inl x :: st) M (pc + 1) ls (.inl (x - x / z * z) :: st) M := by
  refine q_Re.top ?_
  intro p e R s m args below meth c X hfr hlo H locs cells slots Q lsA hl hI hS k
  exact lv_irem X.1 X.2.1 hd hz k
theorem q_r_ineg {x : Int32} (hd : decode bytes pc = .ok (.ineg, 1)) : q_Re l G L xs y bytes fr lo pc ls (.inl x :: st) M (pc + 1) ls (.inl (-x) :: st) M := by
  refine q_Re.top ?_
  intro p e R s m args below meth c X hfr hlo H locs cells slots Q lsA hl hI hS k
  exact lv_ineg X.1 X.2.1 hd k
theorem q_r_ladd {x z : Int64} (hd : decode bytes pc = .ok (.ladd, 1)) : q_Re l G L xs y bytes fr lo pc ls (.inr (.inl z) :: .inr (.inl x) :: st) M (pc + 1) ls (.inr (.inl (x + z)) :: st) M := by
  refine q_Re.top ?_
  intro p e R s m args below meth c X hfr hlo H locs cells slots Q lsA hl hI hS k
  exact lv_ladd X.1 X.2.1 hd k
theorem q_r_lsub {x z : Int64} (hd : decode bytes pc = .ok (.lsub, 1)) : q_Re l G L xs y bytes fr lo pc ls (.inr (.inl z) :: .inr (.inl x) :: st) M (pc + 1) ls (.inr (.inl (x - z)) :: st) M := by
  refine q_Re.top ?_
  intro p e R s m args below meth c X hfr hlo H locs cells slots Q lsA hl hI hS k
  exact lv_lsub X.1 X.2.1 hd k
theorem q_r_lmul {x z : Int64} (hd : decode bytes pc = .ok (.lmul, 1)) : q_Re l G L xs y bytes fr lo pc ls (.inr (.inl z) :: .inr (.inl x) :: st) M (pc + 1) ls (.inr (.inl (x * z)) :: st) M := by
  refine q_Re.top ?_
  intro p e R s m args below meth c X hfr hlo H locs cells slots Q lsA hl hI hS k
  exact lv_lmul X.1 X.2.1 hd k
theorem q_r_land {x z : Int64} (hd : decode bytes pc = .ok (.land, 1)) : q_Re l G L xs y bytes fr lo pc ls (.inr (.inl z) :: .inr (.inl x) :: st) M (pc + 1) ls (.inr (.inl (x &&& z)) :: st) M := by
  refine q_Re.top ?_
  intro p e R s m args below meth c X hfr hlo H locs cells slots Q lsA hl hI hS k
  exact lv_land X.1 X.2.1 hd k
theorem q_r_lor {x z : Int64} (hd : decode bytes pc = .ok (.lor, 1)) : q_Re l G L xs y bytes fr lo pc ls (.inr (.inl z) :: .inr (.inl x) :: st) M (pc + 1) ls (.inr (.inl (x ||| z)) :: st) M := by
  refine q_Re.top ?_
  intro p e R s m args below meth c X hfr hlo H locs cells slots Q lsA hl hI hS k
  exact lv_lor X.1 X.2.1 hd k
theorem q_r_ldiv {x z : Int64} (hd : decode bytes pc = .ok (.ldiv, 1)) (hz : ¬ z = 0) : q_Re l G L xs y bytes fr lo pc ls (.inr (.inl z) :: .inr (.inl x) :: st) M (pc + 1) ls (.inr (.inl (x / z)) :: st) M := by
  refine q_Re.top ?_
  intro p e R s m args below meth c X hfr hlo H locs cells slots Q lsA hl hI hS k
  exact lv_ldiv X.1 X.2.1 hd hz k
theorem q_r_lrem {x z : Int64} (hd : decode bytes pc = .ok (.lrem, 1)) (hz : ¬ z = 0) : q_Re l G L xs y bytes fr lo pc ls (.inr (.inl z) :: .inr (.inl x) :: st) M (pc + 1) ls (.inr (.inl (x - x / z * z)) :: st) M := by
  refine q_Re.top ?_
  intro p e R s m args below meth c X hfr hlo H locs cells slots Q lsA hl hI hS k
  exact lv_lrem X.1 X.2.1 hd hz k
theorem q_r_lshl {x : Int64} {z : Int32} (hd : decode bytes pc = .ok (.lshl, 1)) : q_Re l G L xs y bytes fr lo pc ls (.inl z :: .inr (.inl x) :: st) M (pc + 1) ls (.inr (.inl (x <<< (z.toInt64 &&& 63))) :: st) M := by
  refine q_Re.top ?_
  intro p e R s m args below meth c X hfr hlo H locs cells slots Q lsA hl hI hS k
  exact lv_lshl X.1 X.2.1 hd rfl k
theorem q_r_lshr {x : Int64} {z : Int32} (hd : decode bytes pc = .ok (.lshr, 1)) : q_Re l G L xs y bytes fr lo pc ls (.inl z :: .inr (.inl x) :: st) M (pc + 1) ls (.inr (.inl (x >>> (z.toInt64 &&& 63))) :: st) M := by
  refine q_Re.top ?_
  intro p e R s m args below meth c X hfr hlo H locs cells slots Q lsA hl hI hS k
  exact lv_lshr X.1 X.2.1 hd rfl k
theorem q_r_lcmp {x z : Int64} (hd : decode bytes pc = .ok (.lcmp, 1)) : q_Re l G L xs y bytes fr lo pc ls (.inr (.inl z) :: .inr (.inl x) :: st) M (pc + 1) ls (.inl (lg_cmp x z) :: st) M := by
  refine q_Re.top ?_
  intro p e R s m args below meth c X hfr hlo H locs cells slots Q lsA hl hI hS k
  exact W.lcmp X.1 X.2.1 hd k
theorem q_r_i2l {x : Int32} (hd : decode bytes pc = .ok (.i2l, 1)) : q_Re l G L xs y bytes fr lo pc ls (.inl x :: st) M (pc + 1) ls (.inr (.inl x.toInt64) :: st) M := by
  refine q_Re.top ?_
  intro p e R s m args below meth c X hfr hlo H locs cells slots Q lsA hl hI hS k
  exact lv_i2l X.1 X.2.1 hd rfl k
theorem q_r_l2i {x : Int64} (hd : decode bytes pc = .ok (.l2i, 1)) : q_Re l G L xs y bytes fr lo pc ls (.inr (.inl x) :: st) M (pc + 1) ls (.inl x.toInt32 :: st) M := by
  refine q_Re.top ?_
  intro p e R s m args below meth c X hfr hlo H locs cells slots Q lsA hl hI hS k
  exact lv_l2i X.1 X.2.1 hd rfl k
theorem q_r_i2b {x : Int32} (hd : decode bytes pc = .ok (.i2b, 1)) : q_Re l G L xs y bytes fr lo pc ls (.inl x :: st) M (pc + 1) ls (.inl x.toInt8.toInt32 :: st) M := by
  refine q_Re.top ?_
  intro p e R s m args below meth c X hfr hlo H locs cells slots Q lsA hl hI hS k
  exact lv_i2b X.1 X.2.1 hd rfl k
theorem q_c1_cat {v : q_V} (h : q_c1 v = true) : (q_vv G v).category = 1 := by
  rcases lv_cat (q_vv G v) with q | q
  · exact q
  · obtain ⟨x, rfl⟩ := (q_cat2 G v).mp q
    cases h
theorem q_r_dup {v : q_V} (hd : decode bytes pc = .ok (.dup, 1)) (hv : q_c1 v = true) : q_Re l G L xs y bytes fr lo pc ls (v :: st) M (pc + 1) ls (v :: v :: st) M := by
  refine q_Re.top ?_
  intro p e R s m args below meth c X hfr hlo H locs cells slots Q lsA hl hI hS k
  exact lv_dup X.1 X.2.1 hd (q_c1_cat hv) k
theorem q_r_pop {v : q_V} (hd : decode bytes pc = .ok (.pop, 1)) (hv : q_c1 v = true) : q_Re l G L xs y bytes fr lo pc ls (v :: st) M (pc + 1) ls (st) M := by
  refine q_Re.top ?_
  intro p e R s m args below meth c X hfr hlo H locs cells slots Q lsA hl hI hS k
  exact lv_pop X.1 X.2.1 hd (q_c1_cat hv) k
theorem q_r_dup2 {v u : q_V} (hd : decode bytes pc = .ok (.dup2, 1)) (hv : q_c1 v = true) (hu : q_c1 u = true) : q_Re l G L xs y bytes fr lo pc ls (v :: u :: st) M (pc + 1) ls (v :: u :: v :: u :: st) M := by
  refine q_Re.top ?_
  intro p e R s m args below meth c X hfr hlo H locs cells slots Q lsA hl hI hS k
  exact lv_dup2_11 X.1 X.2.1 hd (q_c1_cat hv) (q_c1_cat hu) k
theorem q_r_dup2L {x : Int64} (hd : decode bytes pc = .ok (.dup2, 1)) : q_Re l G L xs y bytes fr lo pc ls (.inr (.inl x) :: st) M (pc + 1) ls (.inr (.inl x) :: .inr (.inl x) :: st) M := by
  refine q_Re.top ?_
  intro p e R s m args below meth c X hfr hlo H locs cells slots Q lsA hl hI hS k
  exact lv_dup2_2 X.1 X.2.1 hd rfl k
theorem q_r_pop2 {v u : q_V} (hd : decode bytes pc = .ok (.pop2, 1)) (hv : q_c1 v = true) (hu : q_c1 u = true) : q_Re l G L xs y bytes fr lo pc ls (v :: u :: st) M (pc + 1) ls (st) M := by
  refine q_Re.top ?_
  intro p e R s m args below meth c X hfr hlo H locs cells slots Q lsA hl hI hS k
  exact lv_pop2_11 X.1 X.2.1 hd (q_c1_cat hv) (q_c1_cat hu) k
theorem q_r_pop2L {x : Int64} (hd : decode bytes pc = .ok (.pop2, 1)) : q_Re l G L xs y bytes fr lo pc ls (.inr (.inl x) :: st) M (pc + 1) ls (st) M := by
  refine q_Re.top ?_
  intro p e R s m args below meth c X hfr hlo H locs cells slots Q lsA hl hI hS k
  exact lv_pop2_2 X.1 X.2.1 hd rfl k
theorem q_r_goto {d : Int} {t : Nat} (hd : decode bytes pc = .ok (.goto d, 3)) (ht : (pc : Int) + d = (t : Int)) : q_Re l G L xs y bytes fr lo pc ls (st) M (t) ls (st) M := by
  refine q_Re.top ?_
  intro p e R s m args below meth c X hfr hlo H locs cells slots Q lsA hl hI hS k
  exact lv_goto X.1 X.2.1 hd ht k
theorem q_r_if_eq_t {x : Int32} {d : Int} {t : Nat} (hd : decode bytes pc = .ok (.ifCond .eq d, 3)) (ht : (pc : Int) + d = (t : Int)) (hc : x = 0) : q_Re l G L xs y bytes fr lo pc ls (.inl x :: st) M (t) ls (st) M := by
  refine q_Re.top ?_
  intro p e R s m args below meth c X hfr hlo H locs cells slots Q lsA hl hI hS k
  exact lv_if_eq X.1 X.2.1 hd ht (fun _ => k) (fun h => absurd hc h)
theorem q_r_if_eq_f {x : Int32} {d : Int} {t : Nat} (hd : decode bytes pc = .ok (.ifCond .eq d, 3)) (ht : (pc : Int) + d = (t : Int)) (hc : ¬ x = 0) : q_Re l G L xs y bytes fr lo pc ls (.inl x :: st) M (pc + 3) ls (st) M := by
  refine q_Re.top ?_
  intro p e R s m args below meth c X hfr hlo H locs cells slots Q lsA hl hI hS k
  exact lv_if_eq X.1 X.2.1 hd ht (fun h => absurd h hc) (fun _ => k)
theorem q_r_icmp_eq_t {x z : Int32} {d : Int} {t : Nat} (hd : decode bytes pc = .ok (.if_icmp .eq d, 3)) (ht : (pc : Int) + d = (t : Int)) (hc : x = z) : q_Re l G L xs y bytes fr lo pc ls (.inl z :: .inl x :: st) M (t) ls (st) M := by
  refine q_Re.top ?_
  intro p e R s m args below meth c X hfr hlo H locs cells slots Q lsA hl hI hS k
  exact lv_icmp_eq X.1 X.2.1 hd ht (fun _ => k) (fun h => absurd hc h)
theorem q_r_icmp_eq_f {x z : Int32} {d : Int} {t : Nat} (hd : decode bytes pc = .ok (.if_icmp .eq d, 3)) (ht : (pc : Int) + d = (t : Int)) (hc : ¬ x = z) : q_Re l G L xs y bytes fr lo pc ls (.inl z :: .inl x :: st) M (pc + 3) ls (st) M := by
  refine q_Re.top ?_
  intro p e R s m args below meth c X hfr hlo H locs cells slots Q lsA hl hI hS k
  exact lv_icmp_eq X.1 X.2.1 hd ht (fun h => absurd h hc) (fun _ => k)
theorem q_r_if_ne_t {x : Int32} {d : Int} {t : Nat} (hd : decode bytes pc = .ok (.ifCond .ne d, 3)) (ht : (pc : Int) + d = (t : Int)) (hc : ¬ x = 0) : q_Re l G L xs y bytes fr lo pc ls (.inl x :: st) M (t) ls (st) M := by
  refine q_Re.top ?_
  intro p e R s m args below meth c X hfr hlo H locs cells slots Q lsA hl hI hS k
  exact lv_if_ne X.1 X.2.1 hd ht (fun _ => k) (fun h => absurd h hc)
theorem q_r_if_ne_f {x : Int32} {d : Int} {t : Nat} (hd : decode bytes pc = .ok (.ifCond .ne d, 3)) (ht : (pc : Int) + d = (t : Int)) (hc : x = 0) : q_Re l G L xs y bytes fr lo pc ls (.inl x :: st) M (pc + 3) ls (st) M := by
  refine q_Re.top ?_
  intro p e R s m args below meth c X hfr hlo H locs cells slots Q lsA hl hI hS k
  exact lv_if_ne X.1 X.2.1 hd ht (fun h => absurd hc h) (fun _ => k)
theorem q_r_icmp_ne_t {x z : Int32} {d : Int} {t : Nat} (hd : decode bytes pc = .ok (.if_icmp .ne d, 3)) (ht : (pc : Int) + d = (t : Int)) (hc : ¬ x = z) : q_Re l G L xs y bytes fr lo pc ls (.inl z :: .inl x :: st) M (t) ls (st) M := by
  refine q_Re.top ?_
  intro p e R s m args below meth c X hfr hlo H locs cells slots Q lsA hl hI hS k
  exact lv_icmp_ne X.1 X.2.1 hd ht (fun _ => k) (fun h => absurd h hc)
theorem q_r_icmp_ne_f {x z : Int32} {d : Int} {t : Nat} (hd : decode bytes pc = .ok (.if_icmp .ne d, 3)) (ht : (pc : Int) + d = (t : Int)) (hc : x = z) : q_Re l G L xs y bytes fr lo pc ls (.inl z :: .inl x :: st) M (pc + 3) ls (st) M := by
  refine q_Re.top ?_
  intro p e R s m args below meth c X hfr hlo H locs cells slots Q lsA hl hI hS k
  exact lv_icmp_ne X.1 X.2.1 hd ht (fun h => absurd hc h) (fun _ => k)
theorem q_r_if_lt_t {x : Int32} {d : Int} {t : Nat} (hd : decode bytes pc = .ok (.ifCond .lt d, 3)) (ht : (pc : Int) + d = (t : Int)) (hc : x < 0) : q_Re l G L xs y bytes fr lo pc ls (.inl x :: st) M (t) ls (st) M := by
  refine q_Re.top ?_
  intro p e R s m args below meth c X hfr hlo H locs cells slots Q lsA hl hI hS k
  exact lv_if_lt X.1 X.2.1 hd ht (fun _ => k) (fun h => absurd hc h)
theorem q_r_if_lt_f {x : Int32} {d : Int} {t : Nat} (hd : decode bytes pc = .ok (.ifCond .lt d, 3)) (ht : (pc : Int) + d = (t : Int)) (hc : ¬ x < 0) : q_Re l G L xs y bytes fr lo pc ls (.inl x :: st) M (pc + 3) ls (st) M := by
  refine q_Re.top ?_
  intro p e R s m args below meth c X hfr hlo H locs cells slots Q lsA hl hI hS k
  exact lv_if_lt X.1 X.2.1 hd ht (fun h => absurd h hc) (fun _ => k)
theorem q_r_icmp_lt_t {x z : Int32} {d : Int} {t : Nat} (hd : decode bytes pc = .ok (.if_icmp .lt d, 3)) (ht : (pc : Int) + d = (t : Int)) (hc : x < z) : q_Re l G L xs y bytes fr lo pc ls (.inl z :: .inl x :: st) M (t) ls (st) M := by
  refine q_Re.top ?_
  intro p e R s m args below meth c X hfr hlo H locs cells slots Q lsA hl hI hS k
  exact lv_icmp_lt X.1 X.2.1 hd ht (fun _ => k) (fun h => absurd hc h)
theorem q_r_icmp_lt_f {x z : Int32} {d : Int} {t : Nat} (hd : decode bytes pc = .ok (.if_icmp .lt d, 3)) (ht : (pc : Int) + d = (t : Int)) (hc : ¬ x < z) : q_Re l G L xs y bytes fr lo pc ls (.inl z :: .inl x :: st) M (pc + 3) ls (st) M := by
  refine q_Re.top ?_
  intro p e R s m args below meth c X hfr hlo H locs cells slots Q lsA hl hI hS k
  exact lv_icmp_lt X.1 X.2.1 hd ht (fun h => absurd h hc) (fun _ => k)
theorem q_r_if_ge_t {x : Int32} {d : Int} {t : Nat} (hd : decode bytes pc = .ok (.ifCond .ge d, 3)) (ht : (pc : Int) + d = (t : Int)) (hc : 0 ≤ x) : q_Re l G L xs y bytes fr lo pc ls (.inl x :: st) M (t) ls (st) M := by
  refine q_Re.top ?_
  intro p e R s m args below meth c X hfr hlo H locs cells slots Q lsA hl hI hS k
  exact lv_if_ge X.1 X.2.1 hd ht (fun _ => k) (fun h => absurd hc h)
theorem q_r_if_ge_f {x : Int32} {d : Int} {t : Nat} (hd : decode bytes pc = .ok (.ifCond .ge d, 3)) (ht : (pc : Int) + d = (t : Int)) (hc : ¬ 0 ≤ x) : q_Re l G L xs y bytes fr lo pc ls (.inl x :: st) M (pc + 3) ls (st) M := by
  refine q_Re.top ?_
  intro p e R s m args below meth c X hfr hlo H locs cells slots Q lsA hl hI hS k
  exact lv_if_ge X.1 X.2.1 hd ht (fun h => absurd h hc) (fun _ => k)
theorem q_r_icmp_ge_t {x z : Int32} {d : Int} {t : Nat} (hd : decode bytes pc = .ok (.if_icmp .ge d, 3)) (ht : (pc : Int) + d = (t : Int)) (hc : z ≤ x) : q_Re l G L xs y bytes fr lo pc ls (.inl z :: .inl x :: st) M (t) ls (st) M := by
  refine q_Re.top ?_
  intro p e R s m args below meth c X hfr hlo H locs cells slots Q lsA hl hI hS k
  exact lv_icmp_ge X.1 X.2.1 hd ht (fun _ => k) (fun h => absurd hc h)
theorem q_r_icmp_ge_f {x z : Int32} {d : Int} {t : Nat} (hd : decode bytes pc = .ok (.if_icmp .ge d, 3)) (ht : (pc : Int) + d = (t : Int)) (hc : ¬ z ≤ x) : q_Re l G L xs y bytes fr lo pc ls (.inl z :: .inl x :: st) M (pc + 3) ls (st) M := by
  refine q_Re.top ?_
  intro p e R s m args below meth c X hfr hlo H locs cells slots Q lsA hl hI hS k
  exact lv_icmp_ge X.1 X.2.1 hd ht (fun h => absurd h hc) (fun _ => k)
theorem q_r_if_gt_t {x : Int32} {d : Int} {t : Nat} (hd : decode bytes pc = .ok (.ifCond .gt d, 3)) (ht : (pc : Int) + d = (t : Int)) (hc : 0 < x) : q_Re l G L xs y bytes fr lo pc ls (.inl x :: st) M (t) ls (st) M := by
  refine q_Re.top ?_
  intro p e R s m args below meth c X hfr hlo H locs cells slots Q lsA hl hI hS k
  exact lv_if_gt X.1 X.2.1 hd ht (fun _ => k) (fun h => absurd hc h)
theorem q_r_if_gt_f {x : Int32} {d : Int} {t : Nat} (hd : decode bytes pc = .ok (.ifCond .gt d, 3)) (ht : (pc : Int) + d = (t : Int)) (hc : ¬ 0 < x) : q_Re l G L xs y bytes fr lo pc ls (.inl x :: st) M (pc + 3) ls (st) M := by
  refine q_Re.top ?_
  intro p e R s m args below meth c X hfr hlo H locs cells slots Q lsA hl hI hS k
  exact lv_if_gt X.1 X.2.1 hd ht (fun h => absurd h hc) (fun _ => k)
theorem q_r_icmp_gt_t {x z : Int32} {d : Int} {t : Nat} (hd : decode bytes pc = .ok (.if_icmp .gt d, 3)) (ht : (pc : Int) + d = (t : Int)) (hc : z < x) : q_Re l G L xs y bytes fr lo pc ls (.inl z :: .inl x :: st) M (t) ls (st) M := by
  refine q_Re.top ?_
  intro p e R s m args below meth c X hfr hlo H locs cells slots Q lsA hl hI hS k
  exact lv_icmp_gt X.1 X.2.1 hd ht (fun _ => k) (fun h => absurd hc h)
theorem q_r_icmp_gt_f {x z : Int32} {d : Int} {t : Nat} (hd : decode bytes pc = .ok (.if_icmp .gt d, 3)) (ht : (pc : Int) + d = (t : Int)) (hc : ¬ z < x) : q_Re l G L xs y bytes fr lo pc ls (.inl z :: .inl x :: st) M (pc + 3) ls (st) M := by
  refine q_Re.top ?_
  intro p e R s m args below meth c X hfr hlo H locs cells slots Q lsA hl hI hS k
  exact lv_icmp_gt X.1 X.2.1 hd ht (fun h => absurd h hc) (fun _ => k)
theorem q_r_if_le_t {x : Int32} {d : Int} {t : Nat} (hd : decode bytes pc = .ok (.ifCond .le d, 3)) (ht : (pc : Int) + d = (t : Int)) (hc : x ≤ 0) : q_Re l G L xs y bytes fr lo pc ls (.inl x :: st) M (t) ls (st) M := by
  refine q_Re.top ?_
  intro p e R s m args below meth c X hfr hlo H locs cells slots Q lsA hl hI hS k
  exact lv_if_le X.1 X.2.1 hd ht (fun _ => k) (fun h => absurd hc h)
theorem q_r_if_le_f {x : Int32} {d : Int} {t : Nat} (hd : decode bytes pc = .ok (.ifCond .le d, 3)) (ht : (pc : Int) + d = (t : Int)) (hc : ¬ x ≤ 0) : q_Re l G L xs y bytes fr lo pc ls (.inl x :: st) M (pc + 3) ls (st) M := by
  refine q_Re.top ?_
  intro p e R s m args below meth c X hfr hlo H locs cells slots Q lsA hl hI hS k
  exact lv_if_le X.1 X.2.1 hd ht (fun h => absurd h hc) (fun _ => k)
theorem q_r_icmp_le_t {x z : Int32} {d : Int} {t : Nat} (hd : decode bytes pc = .ok (.if_icmp .le d, 3)) (ht : (pc : Int) + d = (t : Int)) (hc : x ≤ z) : q_Re l G L xs y bytes fr lo pc ls (.inl z :: .inl x :: st) M (t) ls (st) M := by
  refine q_Re.top ?_
  intro p e R s m args below meth c X hfr hlo H locs cells slots Q lsA hl hI hS k
  exact lv_icmp_le X.1 X.2.1 hd ht (fun _ => k) (fun h => absurd hc h)
theorem q_r_icmp_le_f {x z : Int32} {d : Int} {t : Nat} (hd : decode bytes pc = .ok (.if_icmp .le d, 3)) (ht : (pc : Int) + d = (t : Int)) (hc : ¬ x ≤ z) : q_Re l G L xs y bytes fr lo pc ls (.inl z :: .inl x :: st) M (pc + 3) ls (st) M := by
  refine q_Re.top ?_
  intro p e R s m args below meth c X hfr hlo H locs cells slots Q lsA hl hI hS k
  exact lv_icmp_le X.1 X.2.1 hd ht (fun h => absurd h hc) (fun _ => k)
theorem q_r_ifnull_t {d : Int} {t : Nat} (hd : decode bytes pc = .ok (.ifnull d, 3)) (ht : (pc : Int) + d = (t : Int)) : q_Re l G L xs y bytes fr lo pc ls (.inr (.inr none) :: st) M (t) ls (st) M := by
  refine q_Re.top ?_
  intro p e R s m args below meth c X hfr hlo H locs cells slots Q lsA hl hI hS k
  exact lv_ifnullN X.1 X.2.1 hd ht k
theorem q_r_ifnull_f {d : Int} {a : Nat} (hd : decode bytes pc = .ok (.ifnull d, 3)) : q_Re l G L xs y bytes fr lo pc ls (.inr (.inr (some a)) :: st) M (pc + 3) ls (st) M := by
  refine q_Re.top ?_
  intro p e R s m args below meth c X hfr hlo H locs cells slots Q lsA hl hI hS k
  exact lv_ifnull X.1 X.2.1 hd k
theorem q_r_ifnonnull_f {d : Int} (hd : decode bytes pc = .ok (.ifnonnull d, 3)) : q_Re l G L xs y bytes fr lo pc ls (.inr (.inr none) :: st) M (pc + 3) ls (st) M := by
  refine q_Re.top ?_
  intro p e R s m args below meth c X hfr hlo H locs cells slots Q lsA hl hI hS k
  exact lv_ifnonnullN X.1 X.2.1 hd k
theorem q_r_ifnonnull_t {d : Int} {t a : Nat} (hd : decode bytes pc = .ok (.ifnonnull d, 3)) (ht : (pc : Int) + d = (t : Int)) : q_Re l G L xs y bytes fr lo pc ls (.inr (.inr (some a)) :: st) M (t) ls (st) M := by
  refine q_Re.top ?_
  intro p e R s m args below meth c X hfr hlo H locs cells slots Q lsA hl hI hS k
  exact lv_ifnonnull X.1 X.2.1 hd ht k
theorem q_r_sw_in {x : Int32} {df a b off : Int} {offs : Array Int} {n t : Nat} (hd : decode bytes pc = .ok (.tableswitch df a b offs, n)) (h1 : ¬ x.toInt < a) (h2 : ¬ b < x.toInt) (ho : offs[(x.toInt - a).toNat]? = some off) (ht : (pc : Int) + off = (t : Int)) : q_Re l G L xs y bytes fr lo pc ls (.inl x :: st) M (t) ls (st) M := by
  refine q_Re.top ?_
  intro p e R s m args below meth c X hfr hlo H locs cells slots Q lsA hl hI hS k
  exact lv_tableIn X.1 X.2.1 hd h1 h2 ho ht k
theorem q_r_sw_out {x : Int32} {df a b : Int} {offs : Array Int} {n t : Nat} (hd : decode bytes pc = .ok (.tableswitch df a b offs, n)) (h : x.toInt < a ∨ b < x.toInt) (ht : (pc : Int) + df = (t : Int)) : q_Re l G L xs y bytes fr lo pc ls (.inl x :: st) M (t) ls (st) M := by
  refine q_Re.top ?_
  intro p e R s m args below meth c X hfr hlo H locs cells slots Q lsA hl hI hS k
  exact lv_tableOut X.1 X.2.1 hd h ht k
end QR
