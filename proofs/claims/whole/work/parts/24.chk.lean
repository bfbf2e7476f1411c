/-! ===== WHAT IS CHECKED OF EACH INSTRUCTION, ONCE ===== -/
def q_on (ow : Nat) : String := q_ow.getD ow ""
def q_in3 (l : List (Nat × Nat × Nat)) (a b c : Nat) : Bool := l.any fun e => Nat.beq e.1 a && (Nat.beq e.2.1 b && Nat.beq e.2.2 c)
theorem q_in3_mem {l : List (Nat × Nat × Nat)} {a b c : Nat} (h : q_in3 l a b c = true) : (a, b, c) ∈ l := by
  obtain ⟨⟨x, y, z⟩, h1, h2⟩ := List.any_eq_true.mp h
  simp only [Bool.and_eq_true] at h2
  have e1 := Nat.eq_of_beq_eq_true h2.1
  have e2 := Nat.eq_of_beq_eq_true h2.2.1
  have e3 := Nat.eq_of_beq_eq_true h2.2.2
  subst e1; subst e2; subst e3
  exact h1
def q_swc (pc : Nat) (df a b : Int) (offs : Array Int) (e : Nat × Nat × List Nat) : Bool := decide (a = (e.1 : Int)) && (decide (b = (e.1 : Int) + (e.2.2.length : Int) - 1) && (decide ((pc : Int) + df = (e.2.1 : Int)) && (decide (offs.toList.map (fun o => (pc : Int) + o) = e.2.2.map (fun n : Nat => (n : Int))) && Nat.ble (e.1 + e.2.2.length) 1000)))
def q_fin (ow : Nat) (ini : Bool) (aux : Nat) : Bool := !(q_T1 (aux / 1000) (aux / 10 % 100)).2.2.2 || (ini && decide ((q_T1 (aux / 1000) (aux / 10 % 100)).1 = q_on ow))
def q_ckd (aux : Nat) : Nat := match q_get q_ct aux with
  | some e => e.1
  | none => 9
def q_akd (a : ArrayType) (aux : Nat) : Bool := match a with
  | .byte => Nat.beq aux 13
  | .int => Nat.beq aux 14
  | .long => Nat.beq aux 15
  | .boolean => Nat.beq aux 16
  | _ => false
def q_chk (ow : Nat) (ini : Bool) (nL pc : Nat) (i : Instr) (len aux : Nat) : Bool := match i with
  | .aload_n _ => Nat.beq len 1
  | .aload _ => Nat.beq len 2
  | .iload_n _ => Nat.beq len 1
  | .iload _ => Nat.beq len 2
  | .lload_n _ => Nat.beq len 1
  | .lload _ => Nat.beq len 2
  | .astore_n n => Nat.beq len 1 && Nat.blt n.val nL
  | .astore n => Nat.beq len 2 && Nat.blt n nL
  | .istore_n n => Nat.beq len 1 && Nat.blt n.val nL
  | .istore n => Nat.beq len 2 && Nat.blt n nL
  | .lstore_n n => Nat.beq len 1 && Nat.blt (n.val + 1) nL
  | .lstore n => Nat.beq len 2 && Nat.blt (n + 1) nL
  | .iconst v => Nat.beq len 1 && decide (Int32.ofInt v = Int32.ofNat aux)
  | .bipush v => Nat.beq len 2 && decide ((Int8.ofInt v).toInt32 = Int32.ofNat aux)
  | .sipush v => Nat.beq len 3 && decide ((Int16.ofInt v).toInt32 = Int32.ofNat aux)
  | .ldc n => Nat.beq len 2 && q_in3 q_kk ow n aux
  | .ldc_w n => Nat.beq len 3 && q_in3 q_kk ow n aux
  | .ldc2_w n => Nat.beq len 3 && q_in3 q_kl ow n aux
  | .iinc _ _ => Nat.beq len 3
  | .goto d => Nat.beq len 3 && decide ((pc : Int) + d = (aux : Int))
  | .ifCond _ d => Nat.beq len 3 && decide ((pc : Int) + d = (aux : Int))
  | .if_icmp _ d => Nat.beq len 3 && decide ((pc : Int) + d = (aux : Int))
  | .ifnull d => Nat.beq len 3 && decide ((pc : Int) + d = (aux : Int))
  | .ifnonnull d => Nat.beq len 3 && decide ((pc : Int) + d = (aux : Int))
  | .tableswitch df a b offs => match q_get q_sw aux with
    | some e => q_swc pc df a b offs e
    | none => false
  | .getfield n => Nat.beq len 3 && q_in3 q_fk ow n aux
  | .putfield n => Nat.beq len 3 && (q_in3 q_fk ow n aux && q_fin ow ini aux)
  | .iaload => Nat.beq len 1 && (Nat.beq aux 14 || Nat.beq aux 23)
  | .baload => Nat.beq len 1 && (Nat.beq aux 13 || Nat.beq aux 16)
  | .new n => Nat.beq len 3 && (q_in3 q_nk ow n aux && Nat.blt aux 13)
  | .newarray a => Nat.beq len 2 && q_akd a aux
  | .anewarray n => Nat.beq len 3 && (q_in3 q_nk ow n aux && (Nat.ble 17 aux && Nat.ble aux 21))
  | .multianewarray n d => Nat.beq len 4 && (Nat.beq d 2 && (Nat.beq n 9 && Nat.beq ow 10))
  | .invokestatic n => Nat.beq len 3 && (q_in3 q_ck ow n aux && (Nat.beq (q_ckd aux) 0 || Nat.ble 4 (q_ckd aux)))
  | .invokevirtual n => Nat.beq len 3 && (q_in3 q_ck ow n aux && Nat.beq (q_ckd aux) 1)
  | .invokespecial n => Nat.beq len 3 && (q_in3 q_ck ow n aux && (Nat.beq (q_ckd aux) 2 || Nat.beq (q_ckd aux) 3))
  | _ => Nat.beq len 1
/-- what the tables say of a target -/
def q_tgt (yy n fr lo : Nat) : Prop := ∃ T d, q_get q_mt yy = some T ∧ q_get q_md yy = some d ∧ q_Cw d.1 d.2.1 d.2.2.1 d.2.2.2 n ∧ T.2.2.2.2.2.1 ≤ fr ∧ d.2.2.1 + 11 + T.2.2.2.2.2.2 ≤ lo
def q_nm (yy : Nat) : MethodName := match q_get q_md yy with
  | some d => d.1
  | none => ⟨"", "", ""⟩
def q_vw (own : String) (idx : Nat) (C : String) (y1 : MethodName) : Prop := (Cond.methodLink own idx y1 ∈ q_wt ∧ Cond.instanceMethod y1 ∈ q_wt ∧ Cond.selects C y1 y1 ∈ q_wt) ∨ ∃ (x1 : MethodName) (b0 : ByteArray) (m0 : Nat) (r0 : Option FieldType), Cond.methodLink own idx x1 ∈ q_wt ∧ Cond.sameMethod x1.cls x1.cls x1.name x1.desc ∈ q_wt ∧ Cond.instanceMethod x1 ∈ q_wt ∧ Cond.selects C x1 y1 ∈ q_wt ∧ Cond.instanceMethod y1 ∈ q_wt ∧ Cond.code x1 b0 m0 r0 ∈ q_wt ∧ x1.cls ≠ "java/lang/invoke/MethodHandle" ∧ x1.cls ≠ "java/lang/invoke/VarHandle" ∧ x1.desc = y1.desc
def q_ckP (ow idx aux : Nat) : Prop := match q_get q_ct aux with
  | none => True
  | some e => match e.1 with
    | 0 => ∀ t yy r, e.2.2.2.2.2 = (t, yy) :: r → q_tgt yy e.2.1 e.2.2.2.1 e.2.2.2.2.1 ∧ Cond.methodLink (q_on ow) idx (q_nm yy) ∈ q_wt ∧ Cond.static (q_nm yy) ∈ q_wt
    | 1 => ∀ q ∈ e.2.2.2.2.2, q.1 < 13 ∧ q_tgt q.2 e.2.1 e.2.2.2.1 e.2.2.2.2.1 ∧ q_vw (q_on ow) idx (q_R1 q.1) (q_nm q.2)
    | 2 => ∀ t yy r, e.2.2.2.2.2 = (t, yy) :: r → q_tgt yy e.2.1 e.2.2.2.1 e.2.2.2.2.1 ∧ (q_nm yy).name = "<init>" ∧ (∀ d, q_get q_md yy = some d → d.2.2.2 = none) ∧ (Cond.methodLink (q_on ow) idx (q_nm yy) ∈ q_wt ∨ ∃ host, Cond.methodLinkNest (q_on ow) idx (q_nm yy) host ∈ q_wt) ∧ Cond.instanceMethod (q_nm yy) ∈ q_wt
    | 3 => e.2.1 = 0 ∧ Cond.methodLink (q_on ow) idx objectInit ∈ q_wt
    | 4 => Cond.methodLink (q_on ow) idx arraycopyName ∈ q_wt
    | 5 => Cond.methodLink (q_on ow) idx Lib.Math.max.name ∈ q_wt
    | 6 => Cond.methodLink (q_on ow) idx Lib.Math.min.name ∈ q_wt
    | 7 => Cond.methodLink (q_on ow) idx Lib.Math.abs.name ∈ q_wt
    | 8 => Cond.methodLink (q_on ow) idx Lib.MathLoose.max_long.x ∈ q_wt
    | _ => False
def q_Ma : Prop := Cond.initialized "java/lang/Math" ∈ q_wt ∧ (Cond.static Lib.Math.max.name ∈ q_wt ∧ Cond.code Lib.Math.max.name Lib.Math.max.code 2 (some .int) ∈ q_wt) ∧ (Cond.static Lib.Math.min.name ∈ q_wt ∧ Cond.code Lib.Math.min.name Lib.Math.min.code 2 (some .int) ∈ q_wt) ∧ (Cond.static Lib.Math.abs.name ∈ q_wt ∧ Cond.code Lib.Math.abs.name Lib.Math.abs.code 1 (some .int) ∈ q_wt) ∧ (Cond.static Lib.MathLoose.max_long.x ∈ q_wt ∧ Cond.code Lib.MathLoose.max_long.x Lib.MathLoose.max_long.code 4 (some .long) ∈ q_wt)
/-- all that the tables are asked for -/
def q_Tb : Prop := q_Fw ∧ q_Gd ∧ (∀ e ∈ q_fk, q_Fl (q_on e.1) e.2.1 (e.2.2 / 1000) (e.2.2 / 10 % 100) ∧ e.2.2 % 10 = q_kd (q_ty (e.2.2 / 1000) (e.2.2 / 10 % 100)) ∧ ((q_ty (e.2.2 / 1000) (e.2.2 / 10 % 100) = .int ∨ q_ty (e.2.2 / 1000) (e.2.2 / 10 % 100) = .long) ∨ (∃ n, q_ty (e.2.2 / 1000) (e.2.2 / 10 % 100) = .object n) ∨ ∃ u, q_ty (e.2.2 / 1000) (e.2.2 / 10 % 100) = .array u)) ∧ (∀ e ∈ q_ck, q_ckP e.1 e.2.1 e.2.2) ∧ (∀ e ∈ q_kk, Cond.constant (q_on e.1) e.2.1 (Int32.ofNat e.2.2) ∈ q_wt) ∧ (∀ e ∈ q_kl, Cond.constantLong (q_on e.1) e.2.1 (Int64.ofNat e.2.2) ∈ q_wt) ∧ (∀ e ∈ q_nk, (e.2.2 < 13 → q_Nl (q_on e.1) e.2.1 e.2.2) ∧ (17 ≤ e.2.2 → e.2.2 ≤ 21 → ∃ C, q_aty e.2.2 = .object C ∧ Cond.classLink (q_on e.1) e.2.1 C ∈ q_wt ∧ Cond.arrayOver (.object C) ∈ q_wt)) ∧
  (∀ t, 13 ≤ t → t ≤ 16 → Cond.arrayClass (q_aty t) ∈ q_wt) ∧ (Cond.castable RX6 "CurveShelf$Curve" ∈ q_wt ∧ Cond.castable RX9 "CurveShelf$Curve" ∈ q_wt) ∧ (Cond.instanceMethod objectInit ∈ q_wt ∧ Cond.code objectInit ⟨#[0xb1]⟩ 1 none ∈ q_wt) ∧ (Cond.native arraycopyName ∈ q_wt ∧ Cond.static arraycopyName ∈ q_wt ∧ Cond.initialized "java/lang/System" ∈ q_wt) ∧ q_Ma
def q_rk (k : Nat) (ret : Option FieldType) : Prop := match k with
  | 0 => ret = none
  | 1 => ret = some .int
  | 2 => ret = some .long
  | 3 => ∃ rt, ret = some rt ∧ ((∃ n, rt = .object n) ∨ ∃ t, rt = .array t)
  | 4 => ret = some .boolean
  | _ => False
/-- a method's rows -/
def q_mOK (T : q_T) (d : MethodName × ByteArray × Nat × Option FieldType) : Prop := q_on T.1 = d.1.cls ∧ T.2.2.2.1 = d.2.2.1 ∧ q_rk T.2.2.2.2.1 d.2.2.2 ∧ plainName d.1.cls = true ∧ ∀ e ∈ T.2.1, decode d.2.1 e.1 = .ok (e.2.1, e.2.2.1) ∧ q_chk T.1 (d.1.name == "<init>") d.2.2.1 e.1 e.2.1 e.2.2.1 e.2.2.2 = true
