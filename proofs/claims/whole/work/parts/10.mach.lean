/-! ===== THE PURE MACHINE: values, memory, steps ===== -/
abbrev q_V : Type := Int32 ⊕ (Int64 ⊕ Option Nat)
abbrev q_L : Type := List (Option q_V)
/-- tags, lengths, ints, longs, references (by cell and place), next cell, slots used -/
abbrev q_M : Type := (Nat → Nat) × (Nat → Nat) × (Nat → Nat → Int32) × (Nat → Nat → Int64) × (Nat → Nat → Option Nat) × Nat × Nat
abbrev q_R : Type := Option q_V × q_M
abbrev q_F : Type := Nat × q_L × List q_V × q_M
abbrev q_O : Type := q_F ⊕ q_R
abbrev q_C : Type := Nat → List q_V → q_M → Option q_R
abbrev q_K : Type := Nat → q_L → List q_V → q_M → Option q_O
/-- pc, instruction, length, resolved number -/
abbrev q_I : Type := Nat × Instr × Nat × Nat
/-- own class, code, cuts, locals, kind of answer, frames and words that it needs -/
abbrev q_T : Type := Nat × List q_I × List Nat × Nat × Nat × Nat × Nat
def q_isT (t g : Nat) : Bool := Nat.beq g t || (Nat.beq t 0 && (Nat.beq g 6 || Nat.beq g 9))
def q_w2 {α : Type} (f : Nat → Nat → α) (a k : Nat) (v : α) : Nat → Nat → α := va_up f a (va_up (f a) k v)
def q_fI (M : q_M) (t a k : Nat) : Option Int32 := if q_isT t (M.1 a) = true then some (M.2.2.1 a k) else none
def q_fL (M : q_M) (t a k : Nat) : Option Int64 := if q_isT t (M.1 a) = true then some (M.2.2.2.1 a k) else none
def q_fR (M : q_M) (t a k : Nat) : Option (Option Nat) := if q_isT t (M.1 a) = true then some (M.2.2.2.2.1 a k) else none
def q_sI (M : q_M) (t a k : Nat) (v : Int32) : Option q_M := if q_isT t (M.1 a) = true then some (M.1, M.2.1, q_w2 M.2.2.1 a k v, M.2.2.2) else none
def q_sL (M : q_M) (t a k : Nat) (v : Int64) : Option q_M := if q_isT t (M.1 a) = true then some (M.1, M.2.1, M.2.2.1, q_w2 M.2.2.2.1 a k v, M.2.2.2.2) else none
def q_sR (M : q_M) (t a k : Nat) (v : Option Nat) : Option q_M := if q_isT t (M.1 a) = true then some (M.1, M.2.1, M.2.2.1, M.2.2.2.1, q_w2 M.2.2.2.2.1 a k v, M.2.2.2.2.2) else none
def q_in (i : Int32) (n : Nat) : Prop := 0 ≤ i ∧ i.toNatClampNeg < n
def q_aI (M : q_M) (t a : Nat) (i : Int32) : Option Int32 := if M.1 a = t ∧ 0 ≤ i ∧ i.toNatClampNeg < M.2.1 a then some (M.2.2.1 a i.toNatClampNeg) else none
def q_aL (M : q_M) (a : Nat) (i : Int32) : Option Int64 := if M.1 a = 15 ∧ 0 ≤ i ∧ i.toNatClampNeg < M.2.1 a then some (M.2.2.2.1 a i.toNatClampNeg) else none
def q_aR (M : q_M) (a : Nat) (i : Int32) : Option (Option Nat) := if (17 ≤ M.1 a ∧ M.1 a ≤ 22) ∧ 0 ≤ i ∧ i.toNatClampNeg < M.2.1 a then some (M.2.2.2.2.1 a i.toNatClampNeg) else none
def q_bI (M : q_M) (t a : Nat) (i v : Int32) : Option q_M := if M.1 a = t ∧ 0 ≤ i ∧ i.toNatClampNeg < M.2.1 a then some (M.1, M.2.1, q_w2 M.2.2.1 a i.toNatClampNeg v, M.2.2.2) else none
def q_bL (M : q_M) (a : Nat) (i : Int32) (v : Int64) : Option q_M := if M.1 a = 15 ∧ 0 ≤ i ∧ i.toNatClampNeg < M.2.1 a then some (M.1, M.2.1, M.2.2.1, q_w2 M.2.2.2.1 a i.toNatClampNeg v, M.2.2.2.2) else none
/-- what an array of references may take -/
def q_may (M : q_M) (k : Nat) (r : Option Nat) : Bool := match r with
  | none => true
  | some v => match k with
    | 17 => Nat.beq (M.1 v) 0 || Nat.beq (M.1 v) 6 || Nat.beq (M.1 v) 9
    | 18 => Nat.beq (M.1 v) 2
    | 19 => Nat.beq (M.1 v) 3
    | 20 => Nat.beq (M.1 v) 5
    | 21 => Nat.beq (M.1 v) 8
    | _ => false
def q_bR (M : q_M) (a : Nat) (i : Int32) (v : Option Nat) : Option q_M := if (17 ≤ M.1 a ∧ M.1 a ≤ 21 ∧ q_may M (M.1 a) v = true) ∧ 0 ≤ i ∧ i.toNatClampNeg < M.2.1 a then some (M.1, M.2.1, M.2.2.1, M.2.2.2.1, q_w2 M.2.2.2.2.1 a i.toNatClampNeg v, M.2.2.2.2.2) else none
def q_len (M : q_M) (a : Nat) : Option Int32 := if 13 ≤ M.1 a ∧ M.1 a ≤ 22 then some (Int32.ofNat (M.2.1 a)) else none
/-- a new cell: its tag, its length -/
def q_born (M : q_M) (t n : Nat) : q_M := (va_up M.1 M.2.2.2.2.2.1 t, va_up M.2.1 M.2.2.2.2.2.1 n, va_up M.2.2.1 M.2.2.2.2.2.1 (fun _ => 0), va_up M.2.2.2.1 M.2.2.2.2.2.1 (fun _ => 0), va_up M.2.2.2.2.1 M.2.2.2.2.2.1 (fun _ => none), M.2.2.2.2.2.1 + 1, M.2.2.2.2.2.2 + n)
def q_new (M : q_M) (t n : Nat) : Option q_M := if M.2.2.2.2.2.1 ≤ 600000 ∧ M.2.2.2.2.2.2 + n ≤ 7302250 then some (q_born M t n) else none
def q_newA (M : q_M) (t : Nat) (n : Int32) : Option q_M := if 0 ≤ n then q_new M t n.toNatClampNeg else none
/-- int[n][k]: the outer one, then the inner ones -/
def q_new2 (M : q_M) (n k : Int32) : Option q_M :=
  if (n = 3 ∧ k = 61) ∧ M.2.2.2.2.2.1 + n.toNatClampNeg ≤ 600000 ∧ M.2.2.2.2.2.2 + (n.toNatClampNeg + n.toNatClampNeg * k.toNatClampNeg) ≤ 7302250 then
    some ((fun a => if a < M.2.2.2.2.2.1 then M.1 a else if a = M.2.2.2.2.2.1 then 22 else if a < M.2.2.2.2.2.1 + 1 + n.toNatClampNeg then 14 else M.1 a),
      (fun a => if a < M.2.2.2.2.2.1 then M.2.1 a else if a = M.2.2.2.2.2.1 then n.toNatClampNeg else k.toNatClampNeg),
      (fun a => if a < M.2.2.2.2.2.1 then M.2.2.1 a else fun _ => 0), (fun a => if a < M.2.2.2.2.2.1 then M.2.2.2.1 a else fun _ => 0),
      (fun a => if a < M.2.2.2.2.2.1 then M.2.2.2.2.1 a else if a = M.2.2.2.2.2.1 then fun j => if j < n.toNatClampNeg then some (M.2.2.2.2.2.1 + 1 + j) else none else fun _ => none),
      M.2.2.2.2.2.1 + 1 + n.toNatClampNeg, M.2.2.2.2.2.2 + (n.toNatClampNeg + n.toNatClampNeg * k.toNatClampNeg))
  else none
/-- System.arraycopy of ints or longs -/
def q_copy (M : q_M) (a b : Nat) (sp dp n : Int32) : Option q_M :=
  if (0 ≤ sp ∧ 0 ≤ dp ∧ 0 ≤ n) ∧ sp.toNatClampNeg + n.toNatClampNeg ≤ M.2.1 a ∧ dp.toNatClampNeg + n.toNatClampNeg ≤ M.2.1 b ∧ M.1 a = M.1 b then
    if M.1 a = 14 then some (M.1, M.2.1, va_up M.2.2.1 b (va_cpy (M.2.2.1 a) (M.2.2.1 b) sp.toNatClampNeg dp.toNatClampNeg n.toNatClampNeg), M.2.2.2)
    else if M.1 a = 15 then some (M.1, M.2.1, M.2.2.1, va_up M.2.2.2.1 b (va_cpy (M.2.2.2.1 a) (M.2.2.2.1 b) sp.toNatClampNeg dp.toNatClampNeg n.toNatClampNeg), M.2.2.2.2)
    else none
  else none
/-! locals and stack -/
def q_nth : q_L → Nat → Option q_V
  | [], _ => none
  | a :: _, 0 => a
  | _ :: r, n + 1 => q_nth r n
def q_kill (a : Option q_V) : Option q_V := match a with
  | some (.inr (.inl _)) => none
  | b => b
def q_set1 : q_L → Nat → q_V → q_L
  | [], _, _ => []
  | _ :: r, 0, v => some v :: r
  | a :: r, 1, v => q_kill a :: q_set1 r 0 v
  | a :: r, n + 2, v => a :: q_set1 r (n + 1) v
def q_drop1 : q_L → q_L
  | [] => []
  | _ :: r => none :: r
def q_set2 : q_L → Nat → q_V → q_L
  | [], _, _ => []
  | _ :: r, 0, v => some v :: q_drop1 r
  | a :: r, 1, v => q_kill a :: q_set2 r 0 v
  | a :: r, n + 2, v => a :: q_set2 r (n + 1) v
def q_gI (ls : q_L) (i : Nat) (f : Int32 → Option q_O) : Option q_O := match q_nth ls i with
  | some (.inl x) => f x
  | _ => none
def q_gL (ls : q_L) (i : Nat) (f : Int64 → Option q_O) : Option q_O := match q_nth ls i with
  | some (.inr (.inl x)) => f x
  | _ => none
def q_gR (ls : q_L) (i : Nat) (f : Option Nat → Option q_O) : Option q_O := match q_nth ls i with
  | some (.inr (.inr x)) => f x
  | _ => none
def q_pI (st : List q_V) (f : Int32 → List q_V → Option q_O) : Option q_O := match st with
  | .inl x :: r => f x r
  | _ => none
def q_pL (st : List q_V) (f : Int64 → List q_V → Option q_O) : Option q_O := match st with
  | .inr (.inl x) :: r => f x r
  | _ => none
def q_pR (st : List q_V) (f : Option Nat → List q_V → Option q_O) : Option q_O := match st with
  | .inr (.inr x) :: r => f x r
  | _ => none
def q_c1 (v : q_V) : Bool := match v with
  | .inr (.inl _) => false
  | _ => true
def q_cats : List q_V → Nat
  | [] => 0
  | .inr (.inl _) :: r => 2 + q_cats r
  | _ :: r => 1 + q_cats r
def q_args : Nat → List q_V → List q_V → (List q_V → List q_V → Option q_O) → Option q_O
  | 0, st, acc, f => f acc st
  | _ + 1, [], _, _ => none
  | n + 1, v :: st, acc, f => q_args n st (v :: acc) f
def q_rV (o : Option q_R) : Option q_M := match o with
  | some (none, M) => some M
  | _ => none
def q_rI (o : Option q_R) : Option (Int32 × q_M) := match o with
  | some (some (.inl x), M) => some (x, M)
  | _ => none
def q_rL (o : Option q_R) : Option (Int64 × q_M) := match o with
  | some (some (.inr (.inl x)), M) => some (x, M)
  | _ => none
def q_rR (o : Option q_R) : Option (Option Nat × q_M) := match o with
  | some (some (.inr (.inr x)), M) => some (x, M)
  | _ => none
def q_res (rt : Nat) (o : Option q_R) (pc : Nat) (ls : q_L) (rest : List q_V) (k : q_K) : Option q_O := match rt with
  | 0 => (q_rV o).bind fun M => k pc ls rest M
  | 1 => (q_rI o).bind fun q => k pc ls (.inl q.1 :: rest) q.2
  | 2 => (q_rL o).bind fun q => k pc ls (.inr (.inl q.1) :: rest) q.2
  | _ => (q_rR o).bind fun q => k pc ls (.inr (.inr q.1) :: rest) q.2
def q_sel (M : q_M) : List (Nat × Nat) → Nat → Option Nat
  | [], _ => none
  | (t, y) :: r, a => if M.1 a = t then some y else q_sel M r a
def q_swt (x : Int32) (d : Nat) (f : Nat → Option q_O) : Nat → List Nat → Option q_O
  | _, [] => f d
  | j, t :: r => if x = Int32.ofNat j then f t else q_swt x d f (j + 1) r
def q_at : List q_I → Nat → Option (Instr × Nat × Nat)
  | [], _ => none
  | e :: r, pc => match Nat.beq e.1 pc with
    | true => some e.2
    | false => q_at r pc
def q_mem : List Nat → Nat → Bool
  | [], _ => false
  | a :: r, x => Nat.beq a x || q_mem r x
def q_get {α : Type} : List α → Nat → Option α
  | [], _ => none
  | a :: _, 0 => some a
  | _ :: r, n + 1 => q_get r n
/-- a call's entry: kind, arguments, kind of answer, frames, words, who answers for which tag -/
abbrev q_E : Type := Nat × Nat × Nat × Nat × Nat × List (Nat × Nat)
def q_lenA (M : q_M) (t a : Nat) : Option Int32 := match t with
  | 23 => if M.1 a = 23 then some (Int32.ofNat (M.2.1 a)) else none
  | _ => q_len M a
def q_ok (T : q_T) (fr lo : Nat) (rest : List q_V) : Bool := Nat.ble (q_cats rest) 8 && (Nat.ble (fr + 1) T.2.2.2.2.2.1 && Nat.ble (8 + lo) T.2.2.2.2.2.2)
def q_call (ct : List q_E) (C : q_C) (T : q_T) (aux pc : Nat) (ls : q_L) (st : List q_V) (M : q_M) (k : q_K) : Option q_O := match q_get ct aux with
  | none => none
  | some (kd, n, rt, fr, lo, ts) => q_args n st [] fun as rest => match kd with
    | 0 => match ts with
      | (_, y) :: _ => match q_ok T fr lo rest with
        | true => q_res rt (C y as M) (pc + 3) ls rest k
        | false => none
      | [] => none
    | 1 => q_pR rest fun r rest => r.bind fun a => match q_ok T fr lo rest with
        | true => (q_sel M ts a).bind fun y => q_res rt (C y (.inr (.inr (some a)) :: as) M) (pc + 3) ls rest k
        | false => none
    | 2 => q_pR rest fun r rest => r.bind fun a => match ts with
      | (_, y) :: _ => match q_ok T fr lo rest with
        | true => q_res rt (C y (.inr (.inr (some a)) :: as) M) (pc + 3) ls rest k
        | false => none
      | [] => none
    | 3 => q_pR rest fun r rest => r.bind fun _ => match Nat.ble (q_cats rest) 8 && (Nat.ble 1 T.2.2.2.2.2.1 && Nat.ble 20 T.2.2.2.2.2.2) with
        | true => k (pc + 3) ls rest M
        | false => none
    | 4 => match as with
      | [.inr (.inr r1), .inl sp, .inr (.inr r2), .inl dp, .inl n] => match Nat.ble (q_cats rest) 8 && (Nat.ble 1 T.2.2.2.2.2.1 && Nat.ble 48 T.2.2.2.2.2.2) with
        | true => r1.bind fun a => r2.bind fun b => (q_copy M a b sp dp n).bind fun M => k (pc + 3) ls rest M
        | false => none
      | _ => none
    | 5 => match as with
      | [.inl x, .inl z] => match Nat.ble (q_cats rest) 8 && (Nat.ble 1 T.2.2.2.2.2.1 && Nat.ble 24 T.2.2.2.2.2.2) with
        | true => k (pc + 3) ls (.inl (if x < z then z else x) :: rest) M
        | false => none
      | _ => none
    | 6 => match as with
      | [.inl x, .inl z] => match Nat.ble (q_cats rest) 8 && (Nat.ble 1 T.2.2.2.2.2.1 && Nat.ble 24 T.2.2.2.2.2.2) with
        | true => k (pc + 3) ls (.inl (if z < x then z else x) :: rest) M
        | false => none
      | _ => none
    | 7 => match as with
      | [.inl x] => match Nat.ble (q_cats rest) 8 && (Nat.ble 1 T.2.2.2.2.2.1 && Nat.ble 24 T.2.2.2.2.2.2) with
        | true => k (pc + 3) ls (.inl (if 0 ≤ x then x else 0 - x) :: rest) M
        | false => none
      | _ => none
    | 8 => match as with
      | [.inr (.inl x), .inr (.inl z)] => match Nat.ble (q_cats rest) 8 && (Nat.ble 1 T.2.2.2.2.2.1 && Nat.ble 24 T.2.2.2.2.2.2) with
        | true => k (pc + 3) ls (.inr (.inl (if z < x then x else z)) :: rest) M
        | false => none
      | _ => none
    | _ => none
def q_fld (aux pc : Nat) (ls : q_L) (st : List q_V) (M : q_M) (k : q_K) : Option q_O := q_pR st fun r st => r.bind fun a => match aux % 10 with
  | 1 => (q_fI M (aux / 1000) a (aux / 10 % 100)).bind fun x => k (pc + 3) ls (.inl x :: st) M
  | 2 => (q_fL M (aux / 1000) a (aux / 10 % 100)).bind fun x => k (pc + 3) ls (.inr (.inl x) :: st) M
  | _ => (q_fR M (aux / 1000) a (aux / 10 % 100)).bind fun x => k (pc + 3) ls (.inr (.inr x) :: st) M
def q_put (aux pc : Nat) (ls : q_L) (st : List q_V) (M : q_M) (k : q_K) : Option q_O := match aux % 10 with
  | 1 => q_pI st fun v st => q_pR st fun r st => r.bind fun a => (q_sI M (aux / 1000) a (aux / 10 % 100) v).bind fun M => k (pc + 3) ls st M
  | 2 => q_pL st fun v st => q_pR st fun r st => r.bind fun a => (q_sL M (aux / 1000) a (aux / 10 % 100) v).bind fun M => k (pc + 3) ls st M
  | _ => q_pR st fun v st => q_pR st fun r st => r.bind fun a => (q_sR M (aux / 1000) a (aux / 10 % 100) v).bind fun M => k (pc + 3) ls st M
def q_ic (c : ClassFile.Cond) (x y : Int32) (a b : Option q_O) : Option q_O := match c with
  | .eq => if x = y then a else b
  | .ne => if x = y then b else a
  | .lt => if x < y then a else b
  | .ge => if y ≤ x then a else b
  | .gt => if y < x then a else b
  | .le => if x ≤ y then a else b
def q_bin (st : List q_V) (f : Int32 → Int32 → Int32) (k : List q_V → Option q_O) : Option q_O := q_pI st fun y st => q_pI st fun x st => k (.inl (f x y) :: st)
def q_binL (st : List q_V) (f : Int64 → Int64 → Int64) (k : List q_V → Option q_O) : Option q_O := q_pL st fun y st => q_pL st fun x st => k (.inr (.inl (f x y)) :: st)
def q_st (ct : List q_E) (sw : List (Nat × Nat × List Nat)) (nf : Nat → Nat) (C : q_C) (T : q_T) (i : Instr) (len aux pc : Nat) (ls : q_L) (st : List q_V) (M : q_M) (k : q_K) : Option q_O := match i with
  | .aload_n n => q_gR ls n.val fun r => k (pc + 1) ls (.inr (.inr r) :: st) M
  | .aload n => q_gR ls n fun r => k (pc + 2) ls (.inr (.inr r) :: st) M
  | .iload_n n => q_gI ls n.val fun x => k (pc + 1) ls (.inl x :: st) M
  | .iload n => q_gI ls n fun x => k (pc + 2) ls (.inl x :: st) M
  | .lload_n n => q_gL ls n.val fun x => k (pc + 1) ls (.inr (.inl x) :: st) M
  | .lload n => q_gL ls n fun x => k (pc + 2) ls (.inr (.inl x) :: st) M
  | .astore_n n => q_pR st fun r st => k (pc + 1) (q_set1 ls n.val (.inr (.inr r))) st M
  | .astore n => q_pR st fun r st => k (pc + 2) (q_set1 ls n (.inr (.inr r))) st M
  | .istore_n n => q_pI st fun x st => k (pc + 1) (q_set1 ls n.val (.inl x)) st M
  | .istore n => q_pI st fun x st => k (pc + 2) (q_set1 ls n (.inl x)) st M
  | .lstore_n n => q_pL st fun x st => k (pc + 1) (q_set2 ls n.val (.inr (.inl x))) st M
  | .lstore n => q_pL st fun x st => k (pc + 2) (q_set2 ls n (.inr (.inl x))) st M
  | .iconst _ => k (pc + 1) ls (.inl (Int32.ofNat aux) :: st) M
  | .bipush _ => k (pc + 2) ls (.inl (Int32.ofNat aux) :: st) M
  | .sipush _ => k (pc + 3) ls (.inl (Int32.ofNat aux) :: st) M
  | .ldc _ => k (pc + 2) ls (.inl (Int32.ofNat aux) :: st) M
  | .ldc_w _ => k (pc + 3) ls (.inl (Int32.ofNat aux) :: st) M
  | .lconst n => k (pc + 1) ls (.inr (.inl (Int64.ofNat n.val)) :: st) M
  | .ldc2_w _ => k (pc + 3) ls (.inr (.inl (Int64.ofNat aux)) :: st) M
  | .aconst_null => k (pc + 1) ls (.inr (.inr none) :: st) M
  | .iadd => q_bin st (fun x y => x + y) fun st => k (pc + 1) ls st M
  | .isub => q_bin st (fun x y => x - y) fun st => k (pc + 1) ls st M
  | .imul => q_bin st (fun x y => x * y) fun st => k (pc + 1) ls st M
  | .iand => q_bin st (fun x y => x &&& y) fun st => k (pc + 1) ls st M
  | .ior => q_bin st (fun x y => x ||| y) fun st => k (pc + 1) ls st M
  | .ixor => q_bin st (fun x y => x ^^^ y) fun st => k (pc + 1) ls st M
  | .ishl => q_bin st (fun x y => x <<< (y &&& 31)) fun st => k (pc + 1) ls st M
  | .ishr => q_bin st (fun x y => x >>> (y &&& 31)) fun st => k (pc + 1) ls st M
  | .iushr => q_bin st (fun x y => (x.toUInt32 >>> (y.toUInt32 &&& Int32.toUInt32 31)).toInt32) fun st => k (pc + 1) ls st M
  | .idiv => q_pI st fun y st => q_pI st fun x st => if y = 0 then none else k (pc + 1) ls (.inl (x / y) :: st) M
  | .irem => q_pI st fun y st => q_pI st fun x st => if y = 0 then none else k (pc + 1) ls (.inl (x - x / y * y) :: st) M
  | .ineg => q_pI st fun x st => k (pc + 1) ls (.inl (-x) :: st) M
  | .ladd => q_binL st (fun x y => x + y) fun st => k (pc + 1) ls st M
  | .lsub => q_binL st (fun x y => x - y) fun st => k (pc + 1) ls st M
  | .lmul => q_binL st (fun x y => x * y) fun st => k (pc + 1) ls st M
  | .land => q_binL st (fun x y => x &&& y) fun st => k (pc + 1) ls st M
  | .lor => q_binL st (fun x y => x ||| y) fun st => k (pc + 1) ls st M
  | .ldiv => q_pL st fun y st => q_pL st fun x st => if y = 0 then none else k (pc + 1) ls (.inr (.inl (x / y)) :: st) M
  | .lrem => q_pL st fun y st => q_pL st fun x st => if y = 0 then none else k (pc + 1) ls (.inr (.inl (x - x / y * y)) :: st) M
  | .lshl => q_pI st fun y st => q_pL st fun x st => k (pc + 1) ls (.inr (.inl (x <<< (y.toInt64 &&& 63))) :: st) M
  | .lshr => q_pI st fun y st => q_pL st fun x st => k (pc + 1) ls (.inr (.inl (x >>> (y.toInt64 &&& 63))) :: st) M
  | .lcmp => q_pL st fun y st => q_pL st fun x st => k (pc + 1) ls (.inl (lg_cmp x y) :: st) M
  | .i2l => q_pI st fun x st => k (pc + 1) ls (.inr (.inl x.toInt64) :: st) M
  | .l2i => q_pL st fun x st => k (pc + 1) ls (.inl x.toInt32 :: st) M
  | .i2b => q_pI st fun x st => k (pc + 1) ls (.inl x.toInt8.toInt32 :: st) M
  | .iinc n c => q_gI ls n fun x => k (pc + 3) (q_set1 ls n (.inl (x + Int32.ofInt c))) st M
  | .dup => match st with
    | v :: st => match q_c1 v with
      | true => k (pc + 1) ls (v :: v :: st) M
      | false => none
    | [] => none
  | .pop => match st with
    | v :: st => match q_c1 v with
      | true => k (pc + 1) ls st M
      | false => none
    | [] => none
  | .dup2 => match st with
    | .inr (.inl x) :: st => k (pc + 1) ls (.inr (.inl x) :: .inr (.inl x) :: st) M
    | v :: w :: st => match q_c1 v && q_c1 w with
      | true => k (pc + 1) ls (v :: w :: v :: w :: st) M
      | false => none
    | _ => none
  | .pop2 => match st with
    | .inr (.inl _) :: st => k (pc + 1) ls st M
    | v :: w :: st => match q_c1 v && q_c1 w with
      | true => k (pc + 1) ls st M
      | false => none
    | _ => none
  | .goto _ => k aux ls st M
  | .ifCond c _ => q_pI st fun x st => q_ic c x 0 (k aux ls st M) (k (pc + 3) ls st M)
  | .if_icmp c _ => q_pI st fun y st => q_pI st fun x st => q_ic c x y (k aux ls st M) (k (pc + 3) ls st M)
  | .ifnull _ => q_pR st fun r st => if r = none then k aux ls st M else k (pc + 3) ls st M
  | .ifnonnull _ => q_pR st fun r st => if r = none then k (pc + 3) ls st M else k aux ls st M
  | .tableswitch _ _ _ _ => match q_get sw aux with
    | some (lo, d, ts) => q_pI st fun x st => q_swt x d (fun t => k t ls st M) lo ts
    | none => none
  | .getfield _ => q_fld aux pc ls st M k
  | .putfield _ => q_put aux pc ls st M k
  | .iaload => q_pI st fun i st => q_pR st fun r st => r.bind fun a => (q_aI M aux a i).bind fun x => k (pc + 1) ls (.inl x :: st) M
  | .baload => q_pI st fun i st => q_pR st fun r st => r.bind fun a => (q_aI M aux a i).bind fun x => k (pc + 1) ls (.inl x :: st) M
  | .laload => q_pI st fun i st => q_pR st fun r st => r.bind fun a => (q_aL M a i).bind fun x => k (pc + 1) ls (.inr (.inl x) :: st) M
  | .aaload => q_pI st fun i st => q_pR st fun r st => r.bind fun a => (q_aR M a i).bind fun x => k (pc + 1) ls (.inr (.inr x) :: st) M
  | .iastore => q_pI st fun v st => q_pI st fun i st => q_pR st fun r st => r.bind fun a => (q_bI M 14 a i v).bind fun M => k (pc + 1) ls st M
  | .bastore => q_pI st fun v st => q_pI st fun i st => q_pR st fun r st => r.bind fun a => match aux with
    | 13 => (q_bI M 13 a i v.toInt8.toInt32).bind fun M => k (pc + 1) ls st M
    | _ => (q_bI M 16 a i (v &&& 1)).bind fun M => k (pc + 1) ls st M
  | .lastore => q_pL st fun v st => q_pI st fun i st => q_pR st fun r st => r.bind fun a => (q_bL M a i v).bind fun M => k (pc + 1) ls st M
  | .aastore => q_pR st fun v st => q_pI st fun i st => q_pR st fun r st => r.bind fun a => (q_bR M a i v).bind fun M => k (pc + 1) ls st M
  | .arraylength => q_pR st fun r st => r.bind fun a => (q_lenA M aux a).bind fun x => k (pc + 1) ls (.inl x :: st) M
  | .new _ => (q_new M aux (nf aux)).bind fun M1 => k (pc + 3) ls (.inr (.inr (some M.2.2.2.2.2.1)) :: st) M1
  | .newarray _ => q_pI st fun n st => (q_newA M aux n).bind fun M1 => k (pc + 2) ls (.inr (.inr (some M.2.2.2.2.2.1)) :: st) M1
  | .anewarray _ => q_pI st fun n st => (q_newA M aux n).bind fun M1 => k (pc + 3) ls (.inr (.inr (some M.2.2.2.2.2.1)) :: st) M1
  | .multianewarray _ _ => q_pI st fun m st => q_pI st fun n st => (q_new2 M n m).bind fun M1 => k (pc + 4) ls (.inr (.inr (some M.2.2.2.2.2.1)) :: st) M1
  | .invokestatic _ => q_call ct C T aux pc ls st M k
  | .invokevirtual _ => q_call ct C T aux pc ls st M k
  | .invokespecial _ => q_call ct C T aux pc ls st M k
  | .ireturn => match st with
    | [.inl x] => match T.2.2.2.2.1 with
      | 1 => some (.inr (some (.inl x), M))
      | 4 => if x = 0 ∨ x = 1 then some (.inr (some (.inl x), M)) else none
      | _ => none
    | _ => none
  | .lreturn => match st with
    | [.inr (.inl x)] => match T.2.2.2.2.1 with
      | 2 => some (.inr (some (.inr (.inl x)), M))
      | _ => none
    | _ => none
  | .areturn => match st with
    | [.inr (.inr r)] => match T.2.2.2.2.1 with
      | 3 => some (.inr (some (.inr (.inr r)), M))
      | _ => none
    | _ => none
  | .return_ => match st with
    | [] => match T.2.2.2.2.1 with
      | 0 => some (.inr (none, M))
      | _ => none
    | _ => none
  | _ => none
def q_run (ct : List q_E) (sw : List (Nat × Nat × List Nat)) (nf : Nat → Nat) (C : q_C) (T : q_T) : Nat → q_K
  | 0, _, _, _, _ => none
  | n + 1, pc, ls, st, M => match q_at T.2.1 pc with
    | none => none
    | some (i, len, aux) => q_st ct sw nf C T i len aux pc ls st M fun pc ls st M => match q_mem T.2.2.1 pc with
      | true => some (.inl (pc, ls, st, M))
      | false => q_run ct sw nf C T n pc ls st M
