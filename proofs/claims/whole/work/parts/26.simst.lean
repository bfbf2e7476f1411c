/-! ===== EVERY INSTRUCTION ===== -/
theorem q_ic_some {c : ClassFile.Cond} {x z : Int32} {A B : Option q_O} {o : q_O} (h : q_ic c x z A B = some o) : (A = some o ∧ (match c with | .eq => x = z | .ne => ¬ x = z | .lt => x < z | .ge => z ≤ x | .gt => z < x | .le => x ≤ z)) ∨ (B = some o ∧ (match c with | .eq => ¬ x = z | .ne => x = z | .lt => ¬ x < z | .ge => ¬ z ≤ x | .gt => ¬ z < x | .le => ¬ x ≤ z)) := by
  unfold q_ic at h
  cases c <;> simp only at h ⊢ <;> split at h <;> rename_i e <;> first | exact Or.inl ⟨h, e⟩ | exact Or.inr ⟨h, e⟩
section QU
variable {l : Launch} {G : q_G} {L : Nat} {xs : Nat → Int32} {C : q_C}
theorem q_sw_sim {y : MethodName} {bytes : ByteArray} {fr lo pc len : Nat} {ls : q_L} {st : List q_V} {M : q_M} {x : Int32} {df a b : Int} {offs : Array Int} {en : Nat × Nat × List Nat} {f : Nat → Option q_O} {o : q_O} (hd : decode bytes pc = .ok (.tableswitch df a b offs, len)) (hc : q_swc pc df a b offs en = true) (h : q_swt x en.2.1 f en.1 en.2.2 = some o) : ∃ t, f t = some o ∧ q_Re l G L xs y bytes fr lo pc ls (.inl x :: st) M t ls st M := by
  unfold q_swc at hc
  obtain ⟨c1, hc⟩ := q_and hc
  obtain ⟨c2, hc⟩ := q_and hc
  obtain ⟨c3, hc⟩ := q_and hc
  obtain ⟨c4, c5⟩ := q_and hc
  have c1 := of_decide_eq_true c1
  have c2 := of_decide_eq_true c2
  have c3 := of_decide_eq_true c3
  have c4 := of_decide_eq_true c4
  have c5 := Nat.le_of_ble_eq_true c5
  rcases q_swt_some h with ⟨i, t, h1, h2, h3⟩ | ⟨h1, h2⟩
  · refine ⟨t, h3, ?_⟩
    have hi : i < en.2.2.length := (List.getElem?_eq_some_iff.mp h1).1
    have hx : x.toInt = ((en.1 + i : Nat) : Int) := by rw [h2]; exact nI_toInt (by omega)
    have h4 := congrArg (fun q : List Int => q[i]?) c4
    simp only [List.getElem?_map, h1, Option.map_some] at h4
    obtain ⟨off, h5, h6⟩ := Option.map_eq_some_iff.mp h4
    refine q_r_sw_in hd (by omega) (by omega) (off := off) ?_ h6
    rw [show (x.toInt - a).toNat = i by omega, ← Array.getElem?_toList]
    exact h5
  · refine ⟨en.2.1, h2, ?_⟩
    refine q_r_sw_out hd ?_ c3
    rcases Int.lt_or_le x.toInt a with g | g
    · exact Or.inl g
    · rcases Int.lt_or_le b x.toInt with g2 | g2
      · exact Or.inr g2
      · exfalso
        have h3 := h1 (x.toInt - a).toNat (by omega)
        apply h3
        apply Int32.toInt_inj.mp
        rw [show (Int32.ofNat (en.1 + (x.toInt - a).toNat)).toInt = ((en.1 + (x.toInt - a).toNat : Nat) : Int) from nI_toInt (by omega)]
        omega
set_option maxHeartbeats 4000000 in
theorem q_sim_st (hT : q_Tb) (hC : q_SC l G L xs C) (hmu : q_Mu l G L xs) {T : q_T} {d : MethodName × ByteArray × Nat × Option FieldType} (hm : q_on T.1 = d.1.cls) {pc : Nat} {i : Instr} {len aux : Nat} (hd : decode d.2.1 pc = .ok (i, len)) (hc : q_chk T.1 (d.1.name == "<init>") d.2.2.1 pc i len aux = true) {ls : q_L} {st : List q_V} {M : q_M} {k : q_K} {o : q_O} (hl : ls.length = d.2.2.1) (h : q_st q_ct q_sw q_nf C T i len aux pc ls st M k = some o) :
    (∃ r, o = .inr (r, M) ∧ len = 1 ∧ q_rts T.2.2.2.2.1 i st r) ∨ ∃ pc1 ls1 st1 M1, k pc1 ls1 st1 M1 = some o ∧ ls1.length = ls.length ∧ q_leM M M1 ∧ q_Re l G L xs d.1 d.2.1 T.2.2.2.2.2.1 T.2.2.2.2.2.2 pc ls st M pc1 ls1 st1 M1 := by
  have hTT := id hT
  obtain ⟨hFw, hGd, hfk, hck, hkk, hkl, hnk, hac, hca, hob, hcp, hma⟩ := hTT
  unfold q_st at h
  split at h
  · rename_i n
    have e : len = 1 := Nat.eq_of_beq_eq_true (show Nat.beq len 1 = true from hc)
    subst e
    obtain ⟨x, h1, h2⟩ := q_gR_some h
    exact Or.inr ⟨_, _, _, _, h2, rfl, q_leM.rf, q_r_aload_n hd h1⟩
  · rename_i n
    have e : len = 2 := Nat.eq_of_beq_eq_true (show Nat.beq len 2 = true from hc)
    subst e
    obtain ⟨x, h1, h2⟩ := q_gR_some h
    exact Or.inr ⟨_, _, _, _, h2, rfl, q_leM.rf, q_r_aload hd h1⟩
  · rename_i n
    have e : len = 1 := Nat.eq_of_beq_eq_true (show Nat.beq len 1 = true from hc)
    subst e
    obtain ⟨x, h1, h2⟩ := q_gI_some h
    exact Or.inr ⟨_, _, _, _, h2, rfl, q_leM.rf, q_r_iload_n hd h1⟩
  · rename_i n
    have e : len = 2 := Nat.eq_of_beq_eq_true (show Nat.beq len 2 = true from hc)
    subst e
    obtain ⟨x, h1, h2⟩ := q_gI_some h
    exact Or.inr ⟨_, _, _, _, h2, rfl, q_leM.rf, q_r_iload hd h1⟩
  · rename_i n
    have e : len = 1 := Nat.eq_of_beq_eq_true (show Nat.beq len 1 = true from hc)
    subst e
    obtain ⟨x, h1, h2⟩ := q_gL_some h
    exact Or.inr ⟨_, _, _, _, h2, rfl, q_leM.rf, q_r_lload_n hd h1⟩
  · rename_i n
    have e : len = 2 := Nat.eq_of_beq_eq_true (show Nat.beq len 2 = true from hc)
    subst e
    obtain ⟨x, h1, h2⟩ := q_gL_some h
    exact Or.inr ⟨_, _, _, _, h2, rfl, q_leM.rf, q_r_lload hd h1⟩
  · rename_i n
    obtain ⟨c1, c2⟩ := q_and (show (Nat.beq len 1 && Nat.blt (n.val) d.2.2.1) = true from hc)
    have e : len = 1 := Nat.eq_of_beq_eq_true c1
    subst e
    obtain ⟨x, r, rfl, h2⟩ := q_pR_some h
    exact Or.inr ⟨_, _, _, _, h2, q_set1_len _ _ _, q_leM.rf, q_r_astore_n hd (by rw [hl]; exact Nat.lt_of_lt_of_le (Nat.lt_succ_self _) (Nat.le_of_ble_eq_true c2))⟩
  · rename_i n
    obtain ⟨c1, c2⟩ := q_and (show (Nat.beq len 2 && Nat.blt (n) d.2.2.1) = true from hc)
    have e : len = 2 := Nat.eq_of_beq_eq_true c1
    subst e
    obtain ⟨x, r, rfl, h2⟩ := q_pR_some h
    exact Or.inr ⟨_, _, _, _, h2, q_set1_len _ _ _, q_leM.rf, q_r_astore hd (by rw [hl]; exact Nat.lt_of_lt_of_le (Nat.lt_succ_self _) (Nat.le_of_ble_eq_true c2))⟩
  · rename_i n
    obtain ⟨c1, c2⟩ := q_and (show (Nat.beq len 1 && Nat.blt (n.val) d.2.2.1) = true from hc)
    have e : len = 1 := Nat.eq_of_beq_eq_true c1
    subst e
    obtain ⟨x, r, rfl, h2⟩ := q_pI_some h
    exact Or.inr ⟨_, _, _, _, h2, q_set1_len _ _ _, q_leM.rf, q_r_istore_n hd (by rw [hl]; exact Nat.lt_of_lt_of_le (Nat.lt_succ_self _) (Nat.le_of_ble_eq_true c2))⟩
  · rename_i n
    obtain ⟨c1, c2⟩ := q_and (show (Nat.beq len 2 && Nat.blt (n) d.2.2.1) = true from hc)
    have e : len = 2 := Nat.eq_of_beq_eq_true c1
    subst e
    obtain ⟨x, r, rfl, h2⟩ := q_pI_some h
    exact Or.inr ⟨_, _, _, _, h2, q_set1_len _ _ _, q_leM.rf, q_r_istore hd (by rw [hl]; exact Nat.lt_of_lt_of_le (Nat.lt_succ_self _) (Nat.le_of_ble_eq_true c2))⟩
  · rename_i n
    obtain ⟨c1, c2⟩ := q_and (show (Nat.beq len 1 && Nat.blt (n.val + 1) d.2.2.1) = true from hc)
    have e : len = 1 := Nat.eq_of_beq_eq_true c1
    subst e
    obtain ⟨x, r, rfl, h2⟩ := q_pL_some h
    exact Or.inr ⟨_, _, _, _, h2, q_set2_len _ _ _, q_leM.rf, q_r_lstore_n hd (by rw [hl]; exact Nat.lt_of_lt_of_le (Nat.lt_succ_self _) (Nat.le_of_ble_eq_true c2))⟩
  · rename_i n
    obtain ⟨c1, c2⟩ := q_and (show (Nat.beq len 2 && Nat.blt (n + 1) d.2.2.1) = true from hc)
    have e : len = 2 := Nat.eq_of_beq_eq_true c1
    subst e
    obtain ⟨x, r, rfl, h2⟩ := q_pL_some h
    exact Or.inr ⟨_, _, _, _, h2, q_set2_len _ _ _, q_leM.rf, q_r_lstore hd (by rw [hl]; exact Nat.lt_of_lt_of_le (Nat.lt_succ_self _) (Nat.le_of_ble_eq_true c2))⟩
  · rename_i v
    obtain ⟨c1, c2⟩ := q_and (show (Nat.beq len 1 && decide (Int32.ofInt v = Int32.ofNat aux)) = true from hc)
    have e : len = 1 := Nat.eq_of_beq_eq_true c1
    subst e
    exact Or.inr ⟨_, _, _, _, h, rfl, q_leM.rf, q_r_iconst hd (of_decide_eq_true c2)⟩
  · rename_i v
    obtain ⟨c1, c2⟩ := q_and (show (Nat.beq len 2 && decide ((Int8.ofInt v).toInt32 = Int32.ofNat aux)) = true from hc)
    have e : len = 2 := Nat.eq_of_beq_eq_true c1
    subst e
    exact Or.inr ⟨_, _, _, _, h, rfl, q_leM.rf, q_r_bipush hd (of_decide_eq_true c2)⟩
  · rename_i v
    obtain ⟨c1, c2⟩ := q_and (show (Nat.beq len 3 && decide ((Int16.ofInt v).toInt32 = Int32.ofNat aux)) = true from hc)
    have e : len = 3 := Nat.eq_of_beq_eq_true c1
    subst e
    exact Or.inr ⟨_, _, _, _, h, rfl, q_leM.rf, q_r_sipush hd (of_decide_eq_true c2)⟩
  · rename_i n
    obtain ⟨c1, c2⟩ := q_and (show (Nat.beq len 2 && q_in3 q_kk T.1 n aux) = true from hc)
    have e : len = 2 := Nat.eq_of_beq_eq_true c1
    subst e
    exact Or.inr ⟨_, _, _, _, h, rfl, q_leM.rf, q_r_ldc hd (hm ▸ hkk _ (q_in3_mem c2))⟩
  · rename_i n
    obtain ⟨c1, c2⟩ := q_and (show (Nat.beq len 3 && q_in3 q_kk T.1 n aux) = true from hc)
    have e : len = 3 := Nat.eq_of_beq_eq_true c1
    subst e
    exact Or.inr ⟨_, _, _, _, h, rfl, q_leM.rf, q_r_ldcw hd (hm ▸ hkk _ (q_in3_mem c2))⟩
  · rename_i n
    have e : len = 1 := Nat.eq_of_beq_eq_true (show Nat.beq len 1 = true from hc)
    subst e
    exact Or.inr ⟨_, _, _, _, h, rfl, q_leM.rf, q_r_lconst hd⟩
  · rename_i n
    obtain ⟨c1, c2⟩ := q_and (show (Nat.beq len 3 && q_in3 q_kl T.1 n aux) = true from hc)
    have e : len = 3 := Nat.eq_of_beq_eq_true c1
    subst e
    exact Or.inr ⟨_, _, _, _, h, rfl, q_leM.rf, q_r_ldc2 hd (hm ▸ hkl _ (q_in3_mem c2))⟩
  · have e : len = 1 := Nat.eq_of_beq_eq_true (show Nat.beq len 1 = true from hc)
    subst e
    exact Or.inr ⟨_, _, _, _, h, rfl, q_leM.rf, q_r_null hd⟩
  · have e : len = 1 := Nat.eq_of_beq_eq_true (show Nat.beq len 1 = true from hc)
    subst e
    obtain ⟨x, z, r, rfl, h2⟩ := q_bin_some h
    exact Or.inr ⟨_, _, _, _, h2, rfl, q_leM.rf, q_r_iadd hd⟩
  · have e : len = 1 := Nat.eq_of_beq_eq_true (show Nat.beq len 1 = true from hc)
    subst e
    obtain ⟨x, z, r, rfl, h2⟩ := q_bin_some h
    exact Or.inr ⟨_, _, _, _, h2, rfl, q_leM.rf, q_r_isub hd⟩
  · have e : len = 1 := Nat.eq_of_beq_eq_true (show Nat.beq len 1 = true from hc)
    subst e
    obtain ⟨x, z, r, rfl, h2⟩ := q_bin_some h
    exact Or.inr ⟨_, _, _, _, h2, rfl, q_leM.rf, q_r_imul hd⟩
  · have e : len = 1 := Nat.eq_of_beq_eq_true (show Nat.beq len 1 = true from hc)
    subst e
    obtain ⟨x, z, r, rfl, h2⟩ := q_bin_some h
    exact Or.inr ⟨_, _, _, _, h2, rfl, q_leM.rf, q_r_iand hd⟩
  · have e : len = 1 := Nat.eq_of_beq_eq_true (show Nat.beq len 1 = true from hc)
    subst e
    obtain ⟨x, z, r, rfl, h2⟩ := q_bin_some h
    exact Or.inr ⟨_, _, _, _, h2, rfl, q_leM.rf, q_r_ior hd⟩
  · have e : len = 1 := Nat.eq_of_beq_eq_true (show Nat.beq len 1 = true from hc)
    subst e
    obtain ⟨x, z, r, rfl, h2⟩ := q_bin_some h
    exact Or.inr ⟨_, _, _, _, h2, rfl, q_leM.rf, q_r_ixor hd⟩
  · have e : len = 1 := Nat.eq_of_beq_eq_true (show Nat.beq len 1 = true from hc)
    subst e
    obtain ⟨x, z, r, rfl, h2⟩ := q_bin_some h
    exact Or.inr ⟨_, _, _, _, h2, rfl, q_leM.rf, q_r_ishl hd⟩
  · have e : len = 1 := Nat.eq_of_beq_eq_true (show Nat.beq len 1 = true from hc)
    subst e
    obtain ⟨x, z, r, rfl, h2⟩ := q_bin_some h
    exact Or.inr ⟨_, _, _, _, h2, rfl, q_leM.rf, q_r_ishr hd⟩
  · have e : len = 1 := Nat.eq_of_beq_eq_true (show Nat.beq len 1 = true from hc)
    subst e
    obtain ⟨x, z, r, rfl, h2⟩ := q_bin_some h
    exact Or.inr ⟨_, _, _, _, h2, rfl, q_leM.rf, q_r_iushr hd⟩
  · have e : len = 1 := Nat.eq_of_beq_eq_true (show Nat.beq len 1 = true from hc)
    subst e
    obtain ⟨z, r, rfl, h1⟩ := q_pI_some h
    obtain ⟨x, r2, rfl, h2⟩ := q_pI_some h1
    split at h2
    · cases h2
    · rename_i hz
      exact Or.inr ⟨_, _, _, _, h2, rfl, q_leM.rf, q_r_idiv hd hz⟩
  · have e : len = 1 := Nat.eq_of_beq_eq_true (show Nat.beq len 1 = true from hc)
    subst e
    obtain ⟨z, r, rfl, h1⟩ := q_pI_some h
    obtain ⟨x, r2, rfl, h2⟩ := q_pI_some h1
    split at h2
    · cases h2
    · rename_i hz
      exact Or.inr ⟨_, _, _, _, h2, rfl, q_leM.rf, q_r_irem hd hz⟩
  · have e : len = 1 := Nat.eq_of_beq_eq_true (show Nat.beq len 1 = true from hc)
    subst e
    obtain ⟨x, r, rfl, h2⟩ := q_pI_some h
    exact Or.inr ⟨_, _, _, _, h2, rfl, q_leM.rf, q_r_ineg hd⟩
  · have e : len = 1 := Nat.eq_of_beq_eq_true (show Nat.beq len 1 = true from hc)
    subst e
    obtain ⟨x, z, r, rfl, h2⟩ := q_binL_some h
    exact Or.inr ⟨_, _, _, _, h2, rfl, q_leM.rf, q_r_ladd hd⟩
  · have e : len = 1 := Nat.eq_of_beq_eq_true (show Nat.beq len 1 = true from hc)
    subst e
    obtain ⟨x, z, r, rfl, h2⟩ := q_binL_some h
    exact Or.inr ⟨_, _, _, _, h2, rfl, q_leM.rf, q_r_lsub hd⟩
  · have e : len = 1 := Nat.eq_of_beq_eq_true (show Nat.beq len 1 = true from hc)
    subst e
    obtain ⟨x, z, r, rfl, h2⟩ := q_binL_some h
    exact Or.inr ⟨_, _, _, _, h2, rfl, q_leM.rf, q_r_lmul hd⟩
  · have e : len = 1 := Nat.eq_of_beq_eq_true (show Nat.beq len 1 = true from hc)
    subst e
    obtain ⟨x, z, r, rfl, h2⟩ := q_binL_some h
    exact Or.inr ⟨_, _, _, _, h2, rfl, q_leM.rf, q_r_land hd⟩
  · have e : len = 1 := Nat.eq_of_beq_eq_true (show Nat.beq len 1 = true from hc)
    subst e
    obtain ⟨x, z, r, rfl, h2⟩ := q_binL_some h
    exact Or.inr ⟨_, _, _, _, h2, rfl, q_leM.rf, q_r_lor hd⟩
  · have e : len = 1 := Nat.eq_of_beq_eq_true (show Nat.beq len 1 = true from hc)
    subst e
    obtain ⟨z, r, rfl, h1⟩ := q_pL_some h
    obtain ⟨x, r2, rfl, h2⟩ := q_pL_some h1
    split at h2
    · cases h2
    · rename_i hz
      exact Or.inr ⟨_, _, _, _, h2, rfl, q_leM.rf, q_r_ldiv hd hz⟩
  · have e : len = 1 := Nat.eq_of_beq_eq_true (show Nat.beq len 1 = true from hc)
    subst e
    obtain ⟨z, r, rfl, h1⟩ := q_pL_some h
    obtain ⟨x, r2, rfl, h2⟩ := q_pL_some h1
    split at h2
    · cases h2
    · rename_i hz
      exact Or.inr ⟨_, _, _, _, h2, rfl, q_leM.rf, q_r_lrem hd hz⟩
  · have e : len = 1 := Nat.eq_of_beq_eq_true (show Nat.beq len 1 = true from hc)
    subst e
    obtain ⟨z, r, rfl, h1⟩ := q_pI_some h
    obtain ⟨x, r2, rfl, h2⟩ := q_pL_some h1
    exact Or.inr ⟨_, _, _, _, h2, rfl, q_leM.rf, q_r_lshl hd⟩
  · have e : len = 1 := Nat.eq_of_beq_eq_true (show Nat.beq len 1 = true from hc)
    subst e
    obtain ⟨z, r, rfl, h1⟩ := q_pI_some h
    obtain ⟨x, r2, rfl, h2⟩ := q_pL_some h1
    exact Or.inr ⟨_, _, _, _, h2, rfl, q_leM.rf, q_r_lshr hd⟩
  · have e : len = 1 := Nat.eq_of_beq_eq_true (show Nat.beq len 1 = true from hc)
    subst e
    obtain ⟨z, r, rfl, h1⟩ := q_pL_some h
    obtain ⟨x, r2, rfl, h2⟩ := q_pL_some h1
    exact Or.inr ⟨_, _, _, _, h2, rfl, q_leM.rf, q_r_lcmp hd⟩
  · have e : len = 1 := Nat.eq_of_beq_eq_true (show Nat.beq len 1 = true from hc)
    subst e
    obtain ⟨x, r, rfl, h2⟩ := q_pI_some h
    exact Or.inr ⟨_, _, _, _, h2, rfl, q_leM.rf, q_r_i2l hd⟩
  · have e : len = 1 := Nat.eq_of_beq_eq_true (show Nat.beq len 1 = true from hc)
    subst e
    obtain ⟨x, r, rfl, h2⟩ := q_pL_some h
    exact Or.inr ⟨_, _, _, _, h2, rfl, q_leM.rf, q_r_l2i hd⟩
  · have e : len = 1 := Nat.eq_of_beq_eq_true (show Nat.beq len 1 = true from hc)
    subst e
    obtain ⟨x, r, rfl, h2⟩ := q_pI_some h
    exact Or.inr ⟨_, _, _, _, h2, rfl, q_leM.rf, q_r_i2b hd⟩
  · rename_i n c
    have e : len = 3 := Nat.eq_of_beq_eq_true (show Nat.beq len 3 = true from hc)
    subst e
    obtain ⟨x, h1, h2⟩ := q_gI_some h
    exact Or.inr ⟨_, _, _, _, h2, q_set1_len _ _ _, q_leM.rf, q_r_iinc hd h1⟩
  · have e : len = 1 := Nat.eq_of_beq_eq_true (show Nat.beq len 1 = true from hc)
    subst e
    split at h
    · split at h
      · rename_i hv
        exact Or.inr ⟨_, _, _, _, h, rfl, q_leM.rf, q_r_dup hd hv⟩
      · cases h
    · cases h
  · have e : len = 1 := Nat.eq_of_beq_eq_true (show Nat.beq len 1 = true from hc)
    subst e
    split at h
    · split at h
      · rename_i hv
        exact Or.inr ⟨_, _, _, _, h, rfl, q_leM.rf, q_r_pop hd hv⟩
      · cases h
    · cases h
  · have e : len = 1 := Nat.eq_of_beq_eq_true (show Nat.beq len 1 = true from hc)
    subst e
    split at h
    · exact Or.inr ⟨_, _, _, _, h, rfl, q_leM.rf, q_r_dup2L hd⟩
    · split at h
      · rename_i hv
        obtain ⟨v1, v2⟩ := q_and hv
        exact Or.inr ⟨_, _, _, _, h, rfl, q_leM.rf, q_r_dup2 hd v1 v2⟩
      · cases h
    · cases h
  · have e : len = 1 := Nat.eq_of_beq_eq_true (show Nat.beq len 1 = true from hc)
    subst e
    split at h
    · exact Or.inr ⟨_, _, _, _, h, rfl, q_leM.rf, q_r_pop2L hd⟩
    · split at h
      · rename_i hv
        obtain ⟨v1, v2⟩ := q_and hv
        exact Or.inr ⟨_, _, _, _, h, rfl, q_leM.rf, q_r_pop2 hd v1 v2⟩
      · cases h
    · cases h
  · rename_i d1
    obtain ⟨c1, c2⟩ := q_and (show (Nat.beq len 3 && decide ((pc : Int) + d1 = (aux : Int))) = true from hc)
    have e : len = 3 := Nat.eq_of_beq_eq_true c1
    subst e
    exact Or.inr ⟨_, _, _, _, h, rfl, q_leM.rf, q_r_goto hd (of_decide_eq_true c2)⟩
  · rename_i c d1
    obtain ⟨c1, c2⟩ := q_and (show (Nat.beq len 3 && decide ((pc : Int) + d1 = (aux : Int))) = true from hc)
    have e : len = 3 := Nat.eq_of_beq_eq_true c1
    subst e
    obtain ⟨x, r, rfl, h1⟩ := q_pI_some h
    cases c with
      | eq =>
        rcases q_ic_some h1 with ⟨h2, h3⟩ | ⟨h2, h3⟩
        · exact Or.inr ⟨_, _, _, _, h2, rfl, q_leM.rf, q_r_if_eq_t hd (of_decide_eq_true c2) h3⟩
        · exact Or.inr ⟨_, _, _, _, h2, rfl, q_leM.rf, q_r_if_eq_f hd (of_decide_eq_true c2) h3⟩
      | ne =>
        rcases q_ic_some h1 with ⟨h2, h3⟩ | ⟨h2, h3⟩
        · exact Or.inr ⟨_, _, _, _, h2, rfl, q_leM.rf, q_r_if_ne_t hd (of_decide_eq_true c2) h3⟩
        · exact Or.inr ⟨_, _, _, _, h2, rfl, q_leM.rf, q_r_if_ne_f hd (of_decide_eq_true c2) h3⟩
      | lt =>
        rcases q_ic_some h1 with ⟨h2, h3⟩ | ⟨h2, h3⟩
        · exact Or.inr ⟨_, _, _, _, h2, rfl, q_leM.rf, q_r_if_lt_t hd (of_decide_eq_true c2) h3⟩
        · exact Or.inr ⟨_, _, _, _, h2, rfl, q_leM.rf, q_r_if_lt_f hd (of_decide_eq_true c2) h3⟩
      | ge =>
        rcases q_ic_some h1 with ⟨h2, h3⟩ | ⟨h2, h3⟩
        · exact Or.inr ⟨_, _, _, _, h2, rfl, q_leM.rf, q_r_if_ge_t hd (of_decide_eq_true c2) h3⟩
        · exact Or.inr ⟨_, _, _, _, h2, rfl, q_leM.rf, q_r_if_ge_f hd (of_decide_eq_true c2) h3⟩
      | gt =>
        rcases q_ic_some h1 with ⟨h2, h3⟩ | ⟨h2, h3⟩
        · exact Or.inr ⟨_, _, _, _, h2, rfl, q_leM.rf, q_r_if_gt_t hd (of_decide_eq_true c2) h3⟩
        · exact Or.inr ⟨_, _, _, _, h2, rfl, q_leM.rf, q_r_if_gt_f hd (of_decide_eq_true c2) h3⟩
      | le =>
        rcases q_ic_some h1 with ⟨h2, h3⟩ | ⟨h2, h3⟩
        · exact Or.inr ⟨_, _, _, _, h2, rfl, q_leM.rf, q_r_if_le_t hd (of_decide_eq_true c2) h3⟩
        · exact Or.inr ⟨_, _, _, _, h2, rfl, q_leM.rf, q_r_if_le_f hd (of_decide_eq_true c2) h3⟩
  · rename_i c d1
    obtain ⟨c1, c2⟩ := q_and (show (Nat.beq len 3 && decide ((pc : Int) + d1 = (aux : Int))) = true from hc)
    have e : len = 3 := Nat.eq_of_beq_eq_true c1
    subst e
    obtain ⟨z, r, rfl, h0⟩ := q_pI_some h
    obtain ⟨x, r2, rfl, h1⟩ := q_pI_some h0
    cases c with
      | eq =>
        rcases q_ic_some h1 with ⟨h2, h3⟩ | ⟨h2, h3⟩
        · exact Or.inr ⟨_, _, _, _, h2, rfl, q_leM.rf, q_r_icmp_eq_t hd (of_decide_eq_true c2) h3⟩
        · exact Or.inr ⟨_, _, _, _, h2, rfl, q_leM.rf, q_r_icmp_eq_f hd (of_decide_eq_true c2) h3⟩
      | ne =>
        rcases q_ic_some h1 with ⟨h2, h3⟩ | ⟨h2, h3⟩
        · exact Or.inr ⟨_, _, _, _, h2, rfl, q_leM.rf, q_r_icmp_ne_t hd (of_decide_eq_true c2) h3⟩
        · exact Or.inr ⟨_, _, _, _, h2, rfl, q_leM.rf, q_r_icmp_ne_f hd (of_decide_eq_true c2) h3⟩
      | lt =>
        rcases q_ic_some h1 with ⟨h2, h3⟩ | ⟨h2, h3⟩
        · exact Or.inr ⟨_, _, _, _, h2, rfl, q_leM.rf, q_r_icmp_lt_t hd (of_decide_eq_true c2) h3⟩
        · exact Or.inr ⟨_, _, _, _, h2, rfl, q_leM.rf, q_r_icmp_lt_f hd (of_decide_eq_true c2) h3⟩
      | ge =>
        rcases q_ic_some h1 with ⟨h2, h3⟩ | ⟨h2, h3⟩
        · exact Or.inr ⟨_, _, _, _, h2, rfl, q_leM.rf, q_r_icmp_ge_t hd (of_decide_eq_true c2) h3⟩
        · exact Or.inr ⟨_, _, _, _, h2, rfl, q_leM.rf, q_r_icmp_ge_f hd (of_decide_eq_true c2) h3⟩
      | gt =>
        rcases q_ic_some h1 with ⟨h2, h3⟩ | ⟨h2, h3⟩
        · exact Or.inr ⟨_, _, _, _, h2, rfl, q_leM.rf, q_r_icmp_gt_t hd (of_decide_eq_true c2) h3⟩
        · exact Or.inr ⟨_, _, _, _, h2, rfl, q_leM.rf, q_r_icmp_gt_f hd (of_decide_eq_true c2) h3⟩
      | le =>
        rcases q_ic_some h1 with ⟨h2, h3⟩ | ⟨h2, h3⟩
        · exact Or.inr ⟨_, _, _, _, h2, rfl, q_leM.rf, q_r_icmp_le_t hd (of_decide_eq_true c2) h3⟩
        · exact Or.inr ⟨_, _, _, _, h2, rfl, q_leM.rf, q_r_icmp_le_f hd (of_decide_eq_true c2) h3⟩
  · rename_i d1
    obtain ⟨c1, c2⟩ := q_and (show (Nat.beq len 3 && decide ((pc : Int) + d1 = (aux : Int))) = true from hc)
    have e : len = 3 := Nat.eq_of_beq_eq_true c1
    subst e
    obtain ⟨x, r, rfl, h1⟩ := q_pR_some h
    cases x with
    | none =>
      rw [if_pos rfl] at h1
      exact Or.inr ⟨_, _, _, _, h1, rfl, q_leM.rf, q_r_ifnull_t hd (of_decide_eq_true c2)⟩
    | some a =>
      rw [if_neg (by simp)] at h1
      exact Or.inr ⟨_, _, _, _, h1, rfl, q_leM.rf, q_r_ifnull_f hd⟩
  · rename_i d1
    obtain ⟨c1, c2⟩ := q_and (show (Nat.beq len 3 && decide ((pc : Int) + d1 = (aux : Int))) = true from hc)
    have e : len = 3 := Nat.eq_of_beq_eq_true c1
    subst e
    obtain ⟨x, r, rfl, h1⟩ := q_pR_some h
    cases x with
    | none =>
      rw [if_pos rfl] at h1
      exact Or.inr ⟨_, _, _, _, h1, rfl, q_leM.rf, q_r_ifnonnull_f hd⟩
    | some a =>
      rw [if_neg (by simp)] at h1
      exact Or.inr ⟨_, _, _, _, h1, rfl, q_leM.rf, q_r_ifnonnull_t hd (of_decide_eq_true c2)⟩
  · rename_i df a b offs
    have hc2 : (match q_get q_sw aux with | some e => q_swc pc df a b offs e | none => false) = true := hc
    generalize q_get q_sw aux = en at h hc2
    rcases en with _ | ⟨lo, d1, ts⟩
    · cases h
    · obtain ⟨x, r, rfl, h1⟩ := q_pI_some h
      obtain ⟨t, h2, h3⟩ := q_sw_sim (en := (lo, d1, ts)) hd hc2 h1
      exact Or.inr ⟨_, _, _, _, h2, rfl, q_leM.rf, h3⟩
  · rename_i n
    obtain ⟨c1, c2⟩ := q_and (show (Nat.beq len 3 && q_in3 q_fk T.1 n aux) = true from hc)
    have e : len = 3 := Nat.eq_of_beq_eq_true c1
    subst e
    obtain ⟨f1, f2, f3⟩ := hfk _ (q_in3_mem c2)
    rw [show (T.1, n, aux).1 = T.1 from rfl, hm] at f1
    unfold q_fld at h
    obtain ⟨x, r, rfl, h1⟩ := q_pR_some h
    obtain ⟨a, rfl, h2⟩ := Option.bind_eq_some_iff.mp h1
    split at h2
    · rename_i hk
      obtain ⟨v, h3, h4⟩ := Option.bind_eq_some_iff.mp h2
      unfold q_fI at h3
      split at h3
      · rename_i ht
        cases h3
        exact Or.inr ⟨_, _, _, _, h4, rfl, q_leM.rf, q_r_get hFw hd f1 ht (by rw [← f2]; simp only [hk]; rfl)⟩
      · cases h3
    · rename_i hk
      obtain ⟨v, h3, h4⟩ := Option.bind_eq_some_iff.mp h2
      unfold q_fL at h3
      split at h3
      · rename_i ht
        cases h3
        exact Or.inr ⟨_, _, _, _, h4, rfl, q_leM.rf, q_r_get hFw hd f1 ht (by rw [← f2]; simp only [hk]; rfl)⟩
      · cases h3
    · rename_i hk1 hk2
      obtain ⟨v, h3, h4⟩ := Option.bind_eq_some_iff.mp h2
      unfold q_fR at h3
      split at h3
      · rename_i ht
        cases h3
        have h3 : q_kd (q_ty (aux / 1000) (aux / 10 % 100)) = 3 := by
          rcases f3 with (f3 | f3) | ⟨_, f3⟩ | ⟨_, f3⟩
          · exact absurd (by rw [f2]; simp only [f3]; rfl) hk1
          · exact absurd (by rw [f2]; simp only [f3]; rfl) hk2
          · simp only [f3]; rfl
          · simp only [f3]; rfl
        exact Or.inr ⟨_, _, _, _, h4, rfl, q_leM.rf, q_r_get hFw hd f1 ht (by simp only [h3]; rfl)⟩
      · cases h3
  · rename_i n
    obtain ⟨c1, c2⟩ := q_and (show (Nat.beq len 3 && (q_in3 q_fk T.1 n aux && q_fin T.1 (d.1.name == "<init>") aux)) = true from hc)
    have e : len = 3 := Nat.eq_of_beq_eq_true c1
    subst e
    obtain ⟨c3, c4⟩ := q_and c2
    obtain ⟨f1, f2, f3⟩ := hfk _ (q_in3_mem c3)
    rw [show (T.1, n, aux).1 = T.1 from rfl, hm] at f1
    have hfin : (q_T1 (aux / 1000) (aux / 10 % 100)).2.2.2 = false ∨ (d.1.name = "<init>" ∧ (q_T1 (aux / 1000) (aux / 10 % 100)).1 = d.1.cls) := by
      unfold q_fin at c4
      rw [Bool.or_eq_true] at c4
      rcases c4 with c4 | c4
      · exact Or.inl (by simpa using c4)
      · obtain ⟨c5, c6⟩ := q_and c4
        exact Or.inr ⟨by simpa using c5, by rw [← hm]; exact of_decide_eq_true c6⟩
    have hle : ∀ {M1 : q_M}, M1.2.2.2.2.2 = M.2.2.2.2.2 → q_leM M M1 := fun e => ⟨by rw [e]; exact Nat.le_refl _, by rw [e]; exact Nat.le_refl _⟩
    unfold q_put at h
    split at h
    · rename_i hk
      obtain ⟨v, r, rfl, h1⟩ := q_pI_some h
      obtain ⟨x, r2, rfl, h2⟩ := q_pR_some h1
      obtain ⟨a, rfl, h3⟩ := Option.bind_eq_some_iff.mp h2
      obtain ⟨M1, h4, h5⟩ := Option.bind_eq_some_iff.mp h3
      have hty : q_ty (aux / 1000) (aux / 10 % 100) = .int := by
        rcases f3 with (f3 | f3) | ⟨_, f3⟩ | ⟨_, f3⟩
        · exact f3
        · exact absurd (hk.symm.trans (f2.trans (congrArg q_kd f3))) (by decide)
        · exact absurd (hk.symm.trans (f2.trans (congrArg q_kd f3))) (by intro h; cases h)
        · exact absurd (hk.symm.trans (f2.trans (congrArg q_kd f3))) (by intro h; cases h)
      refine Or.inr ⟨_, _, _, _, h5, rfl, ?_, q_r_putI hFw hd f1 hfin hty h4⟩
      unfold q_sI at h4
      split at h4
      · cases h4
        exact q_leM.rf
      · cases h4
    · rename_i hk
      obtain ⟨v, r, rfl, h1⟩ := q_pL_some h
      obtain ⟨x, r2, rfl, h2⟩ := q_pR_some h1
      obtain ⟨a, rfl, h3⟩ := Option.bind_eq_some_iff.mp h2
      obtain ⟨M1, h4, h5⟩ := Option.bind_eq_some_iff.mp h3
      have hty : q_ty (aux / 1000) (aux / 10 % 100) = .long := by
        rcases f3 with (f3 | f3) | ⟨_, f3⟩ | ⟨_, f3⟩
        · exact absurd (hk.symm.trans (f2.trans (congrArg q_kd f3))) (by decide)
        · exact f3
        · exact absurd (hk.symm.trans (f2.trans (congrArg q_kd f3))) (by intro h; cases h)
        · exact absurd (hk.symm.trans (f2.trans (congrArg q_kd f3))) (by intro h; cases h)
      refine Or.inr ⟨_, _, _, _, h5, rfl, ?_, q_r_putL hFw hd f1 hfin hty h4⟩
      unfold q_sL at h4
      split at h4
      · cases h4
        exact q_leM.rf
      · cases h4
    · rename_i hk1 hk2
      obtain ⟨v, r, rfl, h1⟩ := q_pR_some h
      obtain ⟨x, r2, rfl, h2⟩ := q_pR_some h1
      obtain ⟨a, rfl, h3⟩ := Option.bind_eq_some_iff.mp h2
      obtain ⟨M1, h4, h5⟩ := Option.bind_eq_some_iff.mp h3
      have hty : (∃ n, q_ty (aux / 1000) (aux / 10 % 100) = .object n) ∨ ∃ u, q_ty (aux / 1000) (aux / 10 % 100) = .array u := by
        rcases f3 with (f3 | f3) | f3
        · exact absurd (f2.trans (congrArg q_kd f3)) hk1
        · exact absurd (f2.trans (congrArg q_kd f3)) hk2
        · exact f3
      refine Or.inr ⟨_, _, _, _, h5, rfl, ?_, q_r_putR hFw hd f1 hfin hty h4⟩
      unfold q_sR at h4
      split at h4
      · cases h4
        exact q_leM.rf
      · cases h4
  · obtain ⟨c1, c2⟩ := q_and (show (Nat.beq len 1 && (Nat.beq aux 14 || Nat.beq aux 23)) = true from hc)
    have e : len = 1 := Nat.eq_of_beq_eq_true c1
    subst e
    obtain ⟨i1, r, rfl, h1⟩ := q_pI_some h
    obtain ⟨x, r2, rfl, h2⟩ := q_pR_some h1
    obtain ⟨a, rfl, h3⟩ := Option.bind_eq_some_iff.mp h2
    obtain ⟨v, h4, h5⟩ := Option.bind_eq_some_iff.mp h3
    rw [Bool.or_eq_true] at c2
    rcases c2 with c2 | c2
    · exact Or.inr ⟨_, _, _, _, h5, rfl, q_leM.rf, q_r_iald hd (Nat.eq_of_beq_eq_true c2) h4⟩
    · rw [Nat.eq_of_beq_eq_true c2] at h4
      exact Or.inr ⟨_, _, _, _, h5, rfl, q_leM.rf, q_r_sald hd h4⟩
  · obtain ⟨c1, c2⟩ := q_and (show (Nat.beq len 1 && (Nat.beq aux 13 || Nat.beq aux 16)) = true from hc)
    have e : len = 1 := Nat.eq_of_beq_eq_true c1
    subst e
    obtain ⟨i1, r, rfl, h1⟩ := q_pI_some h
    obtain ⟨x, r2, rfl, h2⟩ := q_pR_some h1
    obtain ⟨a, rfl, h3⟩ := Option.bind_eq_some_iff.mp h2
    obtain ⟨v, h4, h5⟩ := Option.bind_eq_some_iff.mp h3
    rw [Bool.or_eq_true] at c2
    exact Or.inr ⟨_, _, _, _, h5, rfl, q_leM.rf, q_r_bald hd (by rcases c2 with c2 | c2; exact Or.inl (Nat.eq_of_beq_eq_true c2); exact Or.inr (Nat.eq_of_beq_eq_true c2)) h4⟩
  · have e : len = 1 := Nat.eq_of_beq_eq_true (show Nat.beq len 1 = true from hc)
    subst e
    obtain ⟨i1, r, rfl, h1⟩ := q_pI_some h
    obtain ⟨x, r2, rfl, h2⟩ := q_pR_some h1
    obtain ⟨a, rfl, h3⟩ := Option.bind_eq_some_iff.mp h2
    obtain ⟨v, h4, h5⟩ := Option.bind_eq_some_iff.mp h3
    exact Or.inr ⟨_, _, _, _, h5, rfl, q_leM.rf, q_r_lald hd h4⟩
  · have e : len = 1 := Nat.eq_of_beq_eq_true (show Nat.beq len 1 = true from hc)
    subst e
    obtain ⟨i1, r, rfl, h1⟩ := q_pI_some h
    obtain ⟨x, r2, rfl, h2⟩ := q_pR_some h1
    obtain ⟨a, rfl, h3⟩ := Option.bind_eq_some_iff.mp h2
    obtain ⟨v, h4, h5⟩ := Option.bind_eq_some_iff.mp h3
    exact Or.inr ⟨_, _, _, _, h5, rfl, q_leM.rf, q_r_aald hd h4⟩
  · have e : len = 1 := Nat.eq_of_beq_eq_true (show Nat.beq len 1 = true from hc)
    subst e
    obtain ⟨v, r0, rfl, h0⟩ := q_pI_some h
    obtain ⟨i1, r, rfl, h1⟩ := q_pI_some h0
    obtain ⟨x, r2, rfl, h2⟩ := q_pR_some h1
    obtain ⟨a, rfl, h3⟩ := Option.bind_eq_some_iff.mp h2
    have hle : ∀ {t a : Nat} {i v : Int32} {M1 : q_M}, q_bI M t a i v = some M1 → q_leM M M1 := by
      intro t a i v M1 h
      unfold q_bI at h
      split at h
      · cases h
        exact q_leM.rf
      · cases h
    obtain ⟨M1, h4, h5⟩ := Option.bind_eq_some_iff.mp h3
    exact Or.inr ⟨_, _, _, _, h5, rfl, hle h4, q_r_iast hd rfl h4⟩
  · have e : len = 1 := Nat.eq_of_beq_eq_true (show Nat.beq len 1 = true from hc)
    subst e
    obtain ⟨v, r0, rfl, h0⟩ := q_pI_some h
    obtain ⟨i1, r, rfl, h1⟩ := q_pI_some h0
    obtain ⟨x, r2, rfl, h2⟩ := q_pR_some h1
    obtain ⟨a, rfl, h3⟩ := Option.bind_eq_some_iff.mp h2
    have hle : ∀ {t a : Nat} {i v : Int32} {M1 : q_M}, q_bI M t a i v = some M1 → q_leM M M1 := by
      intro t a i v M1 h
      unfold q_bI at h
      split at h
      · cases h
        exact q_leM.rf
      · cases h
    split at h3
    · obtain ⟨M1, h4, h5⟩ := Option.bind_eq_some_iff.mp h3
      exact Or.inr ⟨_, _, _, _, h5, rfl, hle h4, q_r_bast hd (Or.inl ⟨rfl, rfl⟩) h4⟩
    · obtain ⟨M1, h4, h5⟩ := Option.bind_eq_some_iff.mp h3
      exact Or.inr ⟨_, _, _, _, h5, rfl, hle h4, q_r_bast hd (Or.inr ⟨rfl, rfl⟩) h4⟩
  · have e : len = 1 := Nat.eq_of_beq_eq_true (show Nat.beq len 1 = true from hc)
    subst e
    obtain ⟨v, r0, rfl, h0⟩ := q_pL_some h
    obtain ⟨i1, r, rfl, h1⟩ := q_pI_some h0
    obtain ⟨x, r2, rfl, h2⟩ := q_pR_some h1
    obtain ⟨a, rfl, h3⟩ := Option.bind_eq_some_iff.mp h2
    obtain ⟨M1, h4, h5⟩ := Option.bind_eq_some_iff.mp h3
    refine Or.inr ⟨_, _, _, _, h5, rfl, ?_, q_r_last hd h4⟩
    unfold q_bL at h4
    split at h4
    · cases h4
      exact q_leM.rf
    · cases h4
  · have e : len = 1 := Nat.eq_of_beq_eq_true (show Nat.beq len 1 = true from hc)
    subst e
    obtain ⟨v, r0, rfl, h0⟩ := q_pR_some h
    obtain ⟨i1, r, rfl, h1⟩ := q_pI_some h0
    obtain ⟨x, r2, rfl, h2⟩ := q_pR_some h1
    obtain ⟨a, rfl, h3⟩ := Option.bind_eq_some_iff.mp h2
    obtain ⟨M1, h4, h5⟩ := Option.bind_eq_some_iff.mp h3
    refine Or.inr ⟨_, _, _, _, h5, rfl, ?_, q_r_aast hca.1 hca.2 hd h4⟩
    unfold q_bR at h4
    split at h4
    · cases h4
      exact q_leM.rf
    · cases h4
  · have e : len = 1 := Nat.eq_of_beq_eq_true (show Nat.beq len 1 = true from hc)
    subst e
    obtain ⟨x, r2, rfl, h2⟩ := q_pR_some h
    obtain ⟨a, rfl, h3⟩ := Option.bind_eq_some_iff.mp h2
    obtain ⟨v, h4, h5⟩ := Option.bind_eq_some_iff.mp h3
    by_cases e : aux = 23
    · rw [e] at h4
      exact Or.inr ⟨_, _, _, _, h5, rfl, q_leM.rf, q_r_slen hd h4⟩
    · have h6 : q_len M a = some v := by
        unfold q_lenA at h4
        split at h4
        · exact absurd rfl e
        · exact h4
      exact Or.inr ⟨_, _, _, _, h5, rfl, q_leM.rf, q_r_alen hd h6⟩
  · rename_i n
    obtain ⟨c1, c2⟩ := q_and (show (Nat.beq len 3 && (q_in3 q_nk T.1 n aux && Nat.blt aux 13)) = true from hc)
    have e : len = 3 := Nat.eq_of_beq_eq_true c1
    subst e
    have hle : ∀ {t n : Nat} {M1 : q_M}, q_new M t n = some M1 → q_leM M M1 := by
      intro t n M1 h
      obtain ⟨rfl, -, -⟩ := q_new_some h
      exact ⟨Nat.le_succ _, Nat.le_add_right _ _⟩
    obtain ⟨c3, c4⟩ := q_and c2
    obtain ⟨M1, h4, h5⟩ := Option.bind_eq_some_iff.mp h
    have f1 := (hnk _ (q_in3_mem c3)).1 (Nat.lt_of_lt_of_le (Nat.lt_succ_self _) (Nat.le_of_ble_eq_true c4))
    rw [show (T.1, n, aux).1 = T.1 from rfl, hm] at f1
    exact Or.inr ⟨_, _, _, _, h5, rfl, hle h4, q_r_new hFw hd f1 h4⟩
  · rename_i a
    obtain ⟨c1, c2⟩ := q_and (show (Nat.beq len 2 && q_akd a aux) = true from hc)
    have e : len = 2 := Nat.eq_of_beq_eq_true c1
    subst e
    have hle : ∀ {t n : Nat} {M1 : q_M}, q_new M t n = some M1 → q_leM M M1 := by
      intro t n M1 h
      obtain ⟨rfl, -, -⟩ := q_new_some h
      exact ⟨Nat.le_succ _, Nat.le_add_right _ _⟩
    obtain ⟨x, r, rfl, h1⟩ := q_pI_some h
    obtain ⟨M1, h4, h5⟩ := Option.bind_eq_some_iff.mp h1
    have f1 : 13 ≤ aux ∧ aux ≤ 16 ∧ newarray.typeOf a = q_aty aux := by
      cases a <;> first
        | (have e := Nat.eq_of_beq_eq_true (show Nat.beq aux 13 = true from c2); subst e; exact ⟨by omega, by omega, rfl⟩)
        | (have e := Nat.eq_of_beq_eq_true (show Nat.beq aux 14 = true from c2); subst e; exact ⟨by omega, by omega, rfl⟩)
        | (have e := Nat.eq_of_beq_eq_true (show Nat.beq aux 15 = true from c2); subst e; exact ⟨by omega, by omega, rfl⟩)
        | (have e := Nat.eq_of_beq_eq_true (show Nat.beq aux 16 = true from c2); subst e; exact ⟨by omega, by omega, rfl⟩)
        | cases c2
    exact Or.inr ⟨_, _, _, _, h5, rfl, hle (q_newA_some h4).2, q_r_newa hd f1 (hac aux f1.1 f1.2.1) h4⟩
  · rename_i n
    obtain ⟨c1, c2⟩ := q_and (show (Nat.beq len 3 && (q_in3 q_nk T.1 n aux && (Nat.ble 17 aux && Nat.ble aux 21))) = true from hc)
    have e : len = 3 := Nat.eq_of_beq_eq_true c1
    subst e
    have hle : ∀ {t n : Nat} {M1 : q_M}, q_new M t n = some M1 → q_leM M M1 := by
      intro t n M1 h
      obtain ⟨rfl, -, -⟩ := q_new_some h
      exact ⟨Nat.le_succ _, Nat.le_add_right _ _⟩
    obtain ⟨c3, c4⟩ := q_and c2
    obtain ⟨c4, c5⟩ := q_and c4
    obtain ⟨x, r, rfl, h1⟩ := q_pI_some h
    obtain ⟨M1, h4, h5⟩ := Option.bind_eq_some_iff.mp h1
    obtain ⟨K, f1, f2, f3⟩ := (hnk _ (q_in3_mem c3)).2 (Nat.le_of_ble_eq_true c4) (Nat.le_of_ble_eq_true c5)
    rw [show (T.1, n, aux).1 = T.1 from rfl, hm] at f2
    exact Or.inr ⟨_, _, _, _, h5, rfl, hle (q_newA_some h4).2, q_r_anew hd ⟨Nat.le_of_ble_eq_true c4, Nat.le_of_ble_eq_true c5, f1⟩ ⟨f2, f3⟩ h4⟩
  · rename_i n dm
    obtain ⟨c1, c2⟩ := q_and (show (Nat.beq len 4 && (Nat.beq dm 2 && (Nat.beq n 9 && Nat.beq T.1 10))) = true from hc)
    have e : len = 4 := Nat.eq_of_beq_eq_true c1
    subst e
    obtain ⟨c3, c4⟩ := q_and c2
    obtain ⟨c4, c5⟩ := q_and c4
    have e1 := Nat.eq_of_beq_eq_true c3
    have e2 := Nat.eq_of_beq_eq_true c4
    have e3 := Nat.eq_of_beq_eq_true c5
    subst e1
    subst e2
    obtain ⟨z, r, rfl, h1⟩ := q_pI_some h
    obtain ⟨x, r2, rfl, h2⟩ := q_pI_some h1
    obtain ⟨M1, h4, h5⟩ := Option.bind_eq_some_iff.mp h2
    refine Or.inr ⟨_, _, _, _, h5, rfl, ?_, hmu d.1 d.2.1 _ _ pc ls r2 M M1 x z (by rw [← hm, e3]) hd h4⟩
    unfold q_new2 at h4
    split at h4
    · cases h4
      refine ⟨?_, Nat.le_add_right _ _⟩
      show M.2.2.2.2.2.1 ≤ M.2.2.2.2.2.1 + 1 + _
      omega
    · cases h4
  · rename_i n
    obtain ⟨c1, c2⟩ := q_and (show (Nat.beq len 3 && (q_in3 q_ck T.1 n aux && (Nat.beq (q_ckd aux) 0 || Nat.ble 4 (q_ckd aux)))) = true from hc)
    have e : len = 3 := Nat.eq_of_beq_eq_true c1
    subst e
    obtain ⟨c3, c4⟩ := q_and c2
    obtain ⟨st1, M1, h1, h2, h3⟩ := q_sim_call hT hC hm hd (q_in3_mem c3) (Or.inl ⟨rfl, by rw [Bool.or_eq_true] at c4; rcases c4 with c4 | c4; exact Or.inl (Nat.eq_of_beq_eq_true c4); exact Or.inr (Nat.le_of_ble_eq_true c4)⟩) h
    exact Or.inr ⟨_, _, _, _, h1, rfl, h2, h3⟩
  · rename_i n
    obtain ⟨c1, c2⟩ := q_and (show (Nat.beq len 3 && (q_in3 q_ck T.1 n aux && Nat.beq (q_ckd aux) 1)) = true from hc)
    have e : len = 3 := Nat.eq_of_beq_eq_true c1
    subst e
    obtain ⟨c3, c4⟩ := q_and c2
    obtain ⟨st1, M1, h1, h2, h3⟩ := q_sim_call hT hC hm hd (q_in3_mem c3) (Or.inr (Or.inl ⟨rfl, Nat.eq_of_beq_eq_true c4⟩)) h
    exact Or.inr ⟨_, _, _, _, h1, rfl, h2, h3⟩
  · rename_i n
    obtain ⟨c1, c2⟩ := q_and (show (Nat.beq len 3 && (q_in3 q_ck T.1 n aux && (Nat.beq (q_ckd aux) 2 || Nat.beq (q_ckd aux) 3))) = true from hc)
    have e : len = 3 := Nat.eq_of_beq_eq_true c1
    subst e
    obtain ⟨c3, c4⟩ := q_and c2
    obtain ⟨st1, M1, h1, h2, h3⟩ := q_sim_call hT hC hm hd (q_in3_mem c3) (Or.inr (Or.inr ⟨rfl, by rw [Bool.or_eq_true] at c4; rcases c4 with c4 | c4; exact Or.inl (Nat.eq_of_beq_eq_true c4); exact Or.inr (Nat.eq_of_beq_eq_true c4)⟩)) h
    exact Or.inr ⟨_, _, _, _, h1, rfl, h2, h3⟩
  · have e : len = 1 := Nat.eq_of_beq_eq_true (show Nat.beq len 1 = true from hc)
    subst e
    split at h
    · rename_i x
      split at h
      · rename_i hk
        cases h
        exact Or.inl ⟨_, rfl, rfl, Or.inr (Or.inl ⟨x, Or.inl hk, rfl, rfl, rfl⟩)⟩
      · rename_i hk
        split at h
        · rename_i hx
          cases h
          exact Or.inl ⟨_, rfl, rfl, Or.inr (Or.inl ⟨x, Or.inr ⟨hk, hx⟩, rfl, rfl, rfl⟩)⟩
        · cases h
      · cases h
    · cases h
  · have e : len = 1 := Nat.eq_of_beq_eq_true (show Nat.beq len 1 = true from hc)
    subst e
    split at h
    · rename_i x
      split at h
      · rename_i hk
        cases h
        exact Or.inl ⟨_, rfl, rfl, Or.inr (Or.inr (Or.inl ⟨x, hk, rfl, rfl, rfl⟩))⟩
      · cases h
    · cases h
  · have e : len = 1 := Nat.eq_of_beq_eq_true (show Nat.beq len 1 = true from hc)
    subst e
    split at h
    · rename_i x
      split at h
      · rename_i hk
        cases h
        exact Or.inl ⟨_, rfl, rfl, Or.inr (Or.inr (Or.inr ⟨x, hk, rfl, rfl, rfl⟩))⟩
      · cases h
    · cases h
  · have e : len = 1 := Nat.eq_of_beq_eq_true (show Nat.beq len 1 = true from hc)
    subst e
    split at h
    · split at h
      · rename_i hk
        cases h
        exact Or.inl ⟨_, rfl, rfl, Or.inl ⟨hk, rfl, rfl, rfl⟩⟩
      · cases h
    · cases h
  · cases h
end QU
