/-! ===== EQUATIONS OF BLOCKS ===== -/
noncomputable abbrev q_CL : q_C := q_CC q_mt q_ct q_sw q_nf
noncomputable abbrev q_RL (T : q_T) (f : q_F) : Option q_R := q_RC q_mt q_ct q_sw q_nf T f
noncomputable def q_el (T : q_T) (o : q_O) : Option q_R := match o with
  | .inl g => q_RL T g
  | .inr r => some r
theorem q_el_l (T : q_T) (g : q_F) : q_el T (.inl g) = q_RL T g := rfl
theorem q_el_r (T : q_T) (r : q_R) : q_el T (.inr r) = some r := rfl
theorem q_ibd {α β : Type} {c : Prop} {h : Decidable c} {a b : Option α} {f : α → Option β} : (if c then a else b).bind f = if c then a.bind f else b.bind f := by
  split <;> rfl
theorem q_nI (n : Nat) : Int32.ofNat n = nI n := rfl
theorem q_lN (n : Nat) : Int64.ofNat n = lN n := rfl
theorem q_n1 : Int32.ofNat 4294967295 = -1 := by decide
theorem q_n2 : Int32.ofNat 4294967294 = -2 := by decide
theorem q_n3 : Int32.ofNat 4294967293 = -3 := by decide
theorem q_n4 : Int32.ofNat 4294967292 = -4 := by decide
theorem q_n5 : Int32.ofNat 4294967291 = -5 := by decide
theorem q_n6 : Int32.ofNat 4294967290 = -6 := by decide
theorem q_L1 : Int64.ofNat 18446744073709551615 = -1 := by decide
theorem q_L2 : Int64.ofNat 18446744073709551614 = -2 := by decide
theorem q_L3 : Int64.ofNat 18446744073709551613 = -3 := by decide
theorem q_L4 : Int64.ofNat 18446744073709551612 = -4 := by decide
theorem q_i1 : Int32.ofInt 1 = 1 := by decide
theorem q_i7 : Int32.ofInt 7 = 7 := by decide
theorem q_im : Int32.ofInt (-1) = -1 := by decide
theorem q_is : Int32.ofInt (-8) = -8 := by decide
theorem q_RLe (T : q_T) (pc : Nat) (ls : q_L) (st : List q_V) (M : q_M) : q_RL T (pc, ls, st, M) = (q_run q_ct q_sw q_nf q_CL T 300 pc ls st M).bind (q_el T) := q_RC_eq q_mt q_ct q_sw q_nf T (pc, ls, st, M)
theorem q_CLe {y : Nat} {as : List q_V} {M : q_M} {T : q_T} {f : q_F} (h : q_get q_mt y = some T) (hf : q_ent T as M = some f) : q_CL y as M = q_RL T f := by
  show q_CC q_mt q_ct q_sw q_nf y as M = _
  rw [q_CC_eq, h, Option.bind_some, hf, Option.bind_some]
