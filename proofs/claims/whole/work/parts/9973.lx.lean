/-! ===== A STATE IS MADE ===== -/
theorem bs_ {α β : Type} {x : Option α} {y : α} {f : α → Option β} {z : Option β} (h : x = some y) (g : f y = z) : x.bind f = z := by
  rw [h]; exact g
theorem Rel.oA {b t n : Nat} {M0 G M : q_M} (r : Rel b M0 G M) (rn : gN M0 + 100 ≤ 600000) (rs : gS M0 + 300000 ≤ 7302250) (h1 : gN G ≤ 100) (h2 : gS G + n ≤ 300000) : ∃ M1, q_newA M t (nI n) = some M1 ∧ Rel b M0 (q_born G t n) M1 := ⟨_, r.zA rn rs h1 h2, r.born t n⟩
theorem Rel.oN {b t n : Nat} {M0 G M : q_M} (r : Rel b M0 G M) (rn : gN M0 + 100 ≤ 600000) (rs : gS M0 + 300000 ≤ 7302250) (h1 : gN G ≤ 100) (h2 : gS G + n ≤ 300000) : ∃ M1, q_new M t n = some M1 ∧ Rel b M0 (q_born G t n) M1 := ⟨_, r.zN rn rs h1 h2, r.born t n⟩
theorem Rel.oR {b t x a : Nat} {M0 G M : q_M} (r : Rel b M0 G M) (ea : a = b + x) (hx : x < gN G) (hT : q_isT t (G.1 x) = true) (k : Nat) (y w : Option Nat) (ew : w = y.map (b + ·)) : ∃ M1, q_sR M t a k w = some M1 ∧ Rel b M0 (stR G x k y) M1 := ⟨_, z_sR (r.isT ea hx hT), r.sR ea k y w ew⟩
theorem Rel.oI {b t x a : Nat} {M0 G M : q_M} (r : Rel b M0 G M) (ea : a = b + x) (hx : x < gN G) (hT : q_isT t (G.1 x) = true) (k : Nat) (v : Int32) : ∃ M1, q_sI M t a k v = some M1 ∧ Rel b M0 (stI G x k v) M1 := ⟨_, z_sI (r.isT ea hx hT), r.sI ea k v⟩
theorem Rel.oL {b t x a : Nat} {M0 G M : q_M} (r : Rel b M0 G M) (ea : a = b + x) (hx : x < gN G) (hT : q_isT t (G.1 x) = true) (k : Nat) (v : Int64) : ∃ M1, q_sL M t a k v = some M1 ∧ Rel b M0 (stL G x k v) M1 := ⟨_, z_sL (r.isT ea hx hT), r.sL ea k v⟩
theorem Rel.oBI {b t x a k n : Nat} {M0 G M : q_M} {v : Int32} (r : Rel b M0 G M) (ea : a = b + x) (hx : x < gN G) (hT : G.1 x = t) (hl : G.2.1 x = n) (hk : k < n) (hn : n ≤ 2147483647) : ∃ M1, q_bI M t a (nI k) v = some M1 ∧ Rel b M0 (stI G x k v) M1 := ⟨_, z_bI (r.tg ea hx hT) (r.ln ea hx hl) hk hn, r.sI ea k v⟩
theorem Rel.oS {b x a k y w : Nat} {M0 G M : q_M} (r : Rel b M0 G M) (ea : a = b + x) (ew : w = b + y) (hx : x < gN G) (hT : G.1 x = 20) (hl : G.2.1 x = 4) (hy : y < gN G) (hy5 : G.1 y = 5) (hk : k < 4) : ∃ M1, q_bR M a (nI k) (some w) = some M1 ∧ Rel b M0 (stR G x k (some y)) M1 := by
  have t := r.tg ea hx hT
  have t5 := r.tg ew hy hy5
  exact ⟨_, z_bR (n := 4) ⟨by omega, by omega, by rw [t]; show Nat.beq (M.1 w) 5 = true; rw [t5]; rfl⟩ (r.ln ea hx hl) hk (by omega), r.sR ea k (some y) (some w) (congrArg some ew)⟩
def zs_0 : q_M := gE
def zs_1 : q_M := q_born zs_0 8 9
def zs_2 : q_M := q_born zs_1 17 8
def zs_3 : q_M := stR zs_2 0 0 (some 1)
def zs_4 : q_M := stI zs_3 0 1 (nI 0)
def zs_5 : q_M := q_born zs_4 20 4
def zs_6 : q_M := stR zs_5 0 2 (some 2)
def zs_7 : q_M := q_born zs_6 14 6
def zs_8 : q_M := stR zs_7 0 3 (some 3)
def zs_9 : q_M := q_born zs_8 7 4
def zs_10 : q_M := q_born zs_9 15 200
def zs_11 : q_M := stR zs_10 4 0 (some 5)
def zs_12 : q_M := q_born zs_11 15 200
def zs_13 : q_M := stR zs_12 4 1 (some 6)
def zs_14 : q_M := stI zs_13 4 2 (nI 0)
def zs_15 : q_M := stL zs_14 4 3 (lN 0)
def zs_16 : q_M := stR zs_15 0 4 (some 4)
def zs_17 : q_M := q_born zs_16 1 4
def zs_18 : q_M := stI zs_17 7 2 (nI 0)
def zs_19 : q_M := stI zs_18 7 3 (nI 0)
def zs_20 : q_M := q_born zs_19 18 300
def zs_21 : q_M := stR zs_20 7 0 (some 8)
def zs_22 : q_M := q_born zs_21 15 300
def zs_23 : q_M := stR zs_22 7 1 (some 9)
def zs_24 : q_M := stR zs_23 0 5 (some 7)
def zs_25 : q_M := q_born zs_24 14 8
def zs_26 : q_M := stR zs_25 0 6 (some 10)
def zs_27 : q_M := q_born zs_26 15 8
def zs_28 : q_M := stR zs_27 0 7 (some 11)
def zs_29 : q_M := q_born zs_28 15 8
def zs_30 : q_M := stR zs_29 0 8 (some 12)
def zs_31 : q_M := q_born zs_30 5 4
def zs_32 : q_M := stR zs_31 13 0 none
def zs_33 : q_M := stR zs_32 13 1 none
def zs_34 : q_M := q_born zs_33 19 6
def zs_35 : q_M := stR zs_34 13 2 (some 14)
def zs_36 : q_M := stI zs_35 13 3 (nI 0)
def zs_37 : q_M := stR zs_36 2 0 (some 13)
def zs_38 : q_M := q_born zs_37 5 4
def zs_39 : q_M := stR zs_38 15 0 none
def zs_40 : q_M := stR zs_39 15 1 none
def zs_41 : q_M := q_born zs_40 19 6
def zs_42 : q_M := stR zs_41 15 2 (some 16)
def zs_43 : q_M := stI zs_42 15 3 (nI 0)
def zs_44 : q_M := stR zs_43 2 1 (some 15)
def zs_45 : q_M := q_born zs_44 5 4
def zs_46 : q_M := stR zs_45 17 0 none
def zs_47 : q_M := stR zs_46 17 1 none
def zs_48 : q_M := q_born zs_47 19 6
def zs_49 : q_M := stR zs_48 17 2 (some 18)
def zs_50 : q_M := stI zs_49 17 3 (nI 0)
def zs_51 : q_M := stR zs_50 2 2 (some 17)
def zs_52 : q_M := q_born zs_51 5 4
def zs_53 : q_M := stR zs_52 19 0 none
def zs_54 : q_M := stR zs_53 19 1 none
def zs_55 : q_M := q_born zs_54 19 6
def zs_56 : q_M := stR zs_55 19 2 (some 20)
def zs_57 : q_M := stI zs_56 19 3 (nI 0)
def zs_58 : q_M := stR zs_57 2 3 (some 19)
def zs_59 : q_M := stI zs_58 10 0 (nI 3)
def zs_60 : q_M := stI zs_59 10 1 (nI 3)
def zs_61 : q_M := stI zs_60 10 2 (nI 3)
def zs_62 : q_M := stI zs_61 10 3 (nI 3)
def zs_63 : q_M := stI zs_62 10 4 (nI 3)
def zs_64 : q_M := stI zs_63 10 5 (nI 3)
def zs_65 : q_M := stI zs_64 10 6 (nI 3)
def zs_66 : q_M := stI zs_65 10 7 (nI 3)
def stG : q_M := zs_66
theorem N_st {M0 : q_M} {b : Nat} (eb : gN M0 = b) (rn : gN M0 + 100 ≤ 600000) (rs : gS M0 + 300000 ≤ 7302250) : ∃ A M1, q_new M0 8 9 = some A ∧ q_CL 58 [.inr (.inr (some b))] A = some (none, M1) ∧ Rel b M0 stG M1 := by
  have r0 : Rel b M0 zs_0 M0 := Rel.start eb
  obtain ⟨M1, z1, r1⟩ : ∃ N_, q_new M0 8 9 = some N_ ∧ Rel b M0 zs_1 N_ := r0.oN rn rs (by decide +kernel) (by decide +kernel)
  have e2 : M1.2.2.2.2.2.1 = b + 1 := r1.nx (by decide +kernel)
  obtain ⟨M2, z2, r2⟩ : ∃ N_, q_newA M1 17 (nI 8) = some N_ ∧ Rel b M0 zs_2 N_ := r1.oA rn rs (by decide +kernel) (by decide +kernel)
  obtain ⟨M3, z3, r3⟩ : ∃ N_, q_sR M2 8 b 0 (some M1.2.2.2.2.2.1) = some N_ ∧ Rel b M0 zs_3 N_ := r2.oR (x := 0) rfl (by decide +kernel) (by decide +kernel) 0 (some 1) (some M1.2.2.2.2.2.1) (congrArg some e2)
  obtain ⟨M4, z4, r4⟩ : ∃ N_, q_sI M3 8 b 1 (nI 0) = some N_ ∧ Rel b M0 zs_4 N_ := r3.oI (x := 0) rfl (by decide +kernel) (by decide +kernel) 1 (nI 0)
  have e5 : M4.2.2.2.2.2.1 = b + 2 := r4.nx (by decide +kernel)
  obtain ⟨M5, z5, r5⟩ : ∃ N_, q_newA M4 20 (nI 4) = some N_ ∧ Rel b M0 zs_5 N_ := r4.oA rn rs (by decide +kernel) (by decide +kernel)
  obtain ⟨M6, z6, r6⟩ : ∃ N_, q_sR M5 8 b 2 (some M4.2.2.2.2.2.1) = some N_ ∧ Rel b M0 zs_6 N_ := r5.oR (x := 0) rfl (by decide +kernel) (by decide +kernel) 2 (some 2) (some M4.2.2.2.2.2.1) (congrArg some e5)
  have e7 : M6.2.2.2.2.2.1 = b + 3 := r6.nx (by decide +kernel)
  obtain ⟨M7, z7, r7⟩ : ∃ N_, q_newA M6 14 (nI 6) = some N_ ∧ Rel b M0 zs_7 N_ := r6.oA rn rs (by decide +kernel) (by decide +kernel)
  obtain ⟨M8, z8, r8⟩ : ∃ N_, q_sR M7 8 b 3 (some M6.2.2.2.2.2.1) = some N_ ∧ Rel b M0 zs_8 N_ := r7.oR (x := 0) rfl (by decide +kernel) (by decide +kernel) 3 (some 3) (some M6.2.2.2.2.2.1) (congrArg some e7)
  have e9 : M8.2.2.2.2.2.1 = b + 4 := r8.nx (by decide +kernel)
  obtain ⟨M9, z9, r9⟩ : ∃ N_, q_new M8 7 4 = some N_ ∧ Rel b M0 zs_9 N_ := r8.oN rn rs (by decide +kernel) (by decide +kernel)
  have e10 : M9.2.2.2.2.2.1 = b + 5 := r9.nx (by decide +kernel)
  obtain ⟨M10, z10, r10⟩ : ∃ N_, q_newA M9 15 (nI 200) = some N_ ∧ Rel b M0 zs_10 N_ := r9.oA rn rs (by decide +kernel) (by decide +kernel)
  obtain ⟨M11, z11, r11⟩ : ∃ N_, q_sR M10 7 M8.2.2.2.2.2.1 0 (some M9.2.2.2.2.2.1) = some N_ ∧ Rel b M0 zs_11 N_ := r10.oR (x := 4) e9 (by decide +kernel) (by decide +kernel) 0 (some 5) (some M9.2.2.2.2.2.1) (congrArg some e10)
  have e12 : M11.2.2.2.2.2.1 = b + 6 := r11.nx (by decide +kernel)
  obtain ⟨M12, z12, r12⟩ : ∃ N_, q_newA M11 15 (nI 200) = some N_ ∧ Rel b M0 zs_12 N_ := r11.oA rn rs (by decide +kernel) (by decide +kernel)
  obtain ⟨M13, z13, r13⟩ : ∃ N_, q_sR M12 7 M8.2.2.2.2.2.1 1 (some M11.2.2.2.2.2.1) = some N_ ∧ Rel b M0 zs_13 N_ := r12.oR (x := 4) e9 (by decide +kernel) (by decide +kernel) 1 (some 6) (some M11.2.2.2.2.2.1) (congrArg some e12)
  obtain ⟨M14, z14, r14⟩ : ∃ N_, q_sI M13 7 M8.2.2.2.2.2.1 2 (nI 0) = some N_ ∧ Rel b M0 zs_14 N_ := r13.oI (x := 4) e9 (by decide +kernel) (by decide +kernel) 2 (nI 0)
  obtain ⟨M15, z15, r15⟩ : ∃ N_, q_sL M14 7 M8.2.2.2.2.2.1 3 (lN 0) = some N_ ∧ Rel b M0 zs_15 N_ := r14.oL (x := 4) e9 (by decide +kernel) (by decide +kernel) 3 (lN 0)
  have c1 : q_CL 52 [.inr (.inr (some M8.2.2.2.2.2.1))] M9 = some (none, M15) := (C_X7_init M9 M8.2.2.2.2.2.1).trans (bs_ z10 (bs_ z11 (bs_ z12 (bs_ z13 (bs_ z14 (bs_ z15 (rfl)))))))
  obtain ⟨M16, z16, r16⟩ : ∃ N_, q_sR M15 8 b 4 (some M8.2.2.2.2.2.1) = some N_ ∧ Rel b M0 zs_16 N_ := r15.oR (x := 0) rfl (by decide +kernel) (by decide +kernel) 4 (some 4) (some M8.2.2.2.2.2.1) (congrArg some e9)
  have e17 : M16.2.2.2.2.2.1 = b + 7 := r16.nx (by decide +kernel)
  obtain ⟨M17, z17, r17⟩ : ∃ N_, q_new M16 1 4 = some N_ ∧ Rel b M0 zs_17 N_ := r16.oN rn rs (by decide +kernel) (by decide +kernel)
  obtain ⟨M18, z18, r18⟩ : ∃ N_, q_sI M17 1 M16.2.2.2.2.2.1 2 (nI 0) = some N_ ∧ Rel b M0 zs_18 N_ := r17.oI (x := 7) e17 (by decide +kernel) (by decide +kernel) 2 (nI 0)
  obtain ⟨M19, z19, r19⟩ : ∃ N_, q_sI M18 1 M16.2.2.2.2.2.1 3 (nI 0) = some N_ ∧ Rel b M0 zs_19 N_ := r18.oI (x := 7) e17 (by decide +kernel) (by decide +kernel) 3 (nI 0)
  have e20 : M19.2.2.2.2.2.1 = b + 8 := r19.nx (by decide +kernel)
  obtain ⟨M20, z20, r20⟩ : ∃ N_, q_newA M19 18 (nI 300) = some N_ ∧ Rel b M0 zs_20 N_ := r19.oA rn rs (by decide +kernel) (by decide +kernel)
  obtain ⟨M21, z21, r21⟩ : ∃ N_, q_sR M20 1 M16.2.2.2.2.2.1 0 (some M19.2.2.2.2.2.1) = some N_ ∧ Rel b M0 zs_21 N_ := r20.oR (x := 7) e17 (by decide +kernel) (by decide +kernel) 0 (some 8) (some M19.2.2.2.2.2.1) (congrArg some e20)
  have e22 : M21.2.2.2.2.2.1 = b + 9 := r21.nx (by decide +kernel)
  obtain ⟨M22, z22, r22⟩ : ∃ N_, q_newA M21 15 (nI 300) = some N_ ∧ Rel b M0 zs_22 N_ := r21.oA rn rs (by decide +kernel) (by decide +kernel)
  obtain ⟨M23, z23, r23⟩ : ∃ N_, q_sR M22 1 M16.2.2.2.2.2.1 1 (some M21.2.2.2.2.2.1) = some N_ ∧ Rel b M0 zs_23 N_ := r22.oR (x := 7) e17 (by decide +kernel) (by decide +kernel) 1 (some 9) (some M21.2.2.2.2.2.1) (congrArg some e22)
  have c2 : q_CL 7 [.inr (.inr (some M16.2.2.2.2.2.1)), .inl (nI 300)] M17 = some (none, M23) := (C_X1_init M17 M16.2.2.2.2.2.1 (nI 300)).trans (bs_ z18 (bs_ z19 (bs_ z20 (bs_ z21 (bs_ z22 (bs_ z23 (rfl)))))))
  obtain ⟨M24, z24, r24⟩ : ∃ N_, q_sR M23 8 b 5 (some M16.2.2.2.2.2.1) = some N_ ∧ Rel b M0 zs_24 N_ := r23.oR (x := 0) rfl (by decide +kernel) (by decide +kernel) 5 (some 7) (some M16.2.2.2.2.2.1) (congrArg some e17)
  have e25 : M24.2.2.2.2.2.1 = b + 10 := r24.nx (by decide +kernel)
  obtain ⟨M25, z25, r25⟩ : ∃ N_, q_newA M24 14 (nI 8) = some N_ ∧ Rel b M0 zs_25 N_ := r24.oA rn rs (by decide +kernel) (by decide +kernel)
  obtain ⟨M26, z26, r26⟩ : ∃ N_, q_sR M25 8 b 6 (some M24.2.2.2.2.2.1) = some N_ ∧ Rel b M0 zs_26 N_ := r25.oR (x := 0) rfl (by decide +kernel) (by decide +kernel) 6 (some 10) (some M24.2.2.2.2.2.1) (congrArg some e25)
  have e27 : M26.2.2.2.2.2.1 = b + 11 := r26.nx (by decide +kernel)
  obtain ⟨M27, z27, r27⟩ : ∃ N_, q_newA M26 15 (nI 8) = some N_ ∧ Rel b M0 zs_27 N_ := r26.oA rn rs (by decide +kernel) (by decide +kernel)
  obtain ⟨M28, z28, r28⟩ : ∃ N_, q_sR M27 8 b 7 (some M26.2.2.2.2.2.1) = some N_ ∧ Rel b M0 zs_28 N_ := r27.oR (x := 0) rfl (by decide +kernel) (by decide +kernel) 7 (some 11) (some M26.2.2.2.2.2.1) (congrArg some e27)
  have e29 : M28.2.2.2.2.2.1 = b + 12 := r28.nx (by decide +kernel)
  obtain ⟨M29, z29, r29⟩ : ∃ N_, q_newA M28 15 (nI 8) = some N_ ∧ Rel b M0 zs_29 N_ := r28.oA rn rs (by decide +kernel) (by decide +kernel)
  obtain ⟨M30, z30, r30⟩ : ∃ N_, q_sR M29 8 b 8 (some M28.2.2.2.2.2.1) = some N_ ∧ Rel b M0 zs_30 N_ := r29.oR (x := 0) rfl (by decide +kernel) (by decide +kernel) 8 (some 12) (some M28.2.2.2.2.2.1) (congrArg some e29)
  have f3 : q_fR M30 8 b 2 = some (some (b + 2)) := (z_fR (r30.isT (x := 0) rfl (by decide +kernel) (by decide +kernel))).trans (congrArg some (r30.rf (x := 0) rfl (by decide +kernel) (by decide +kernel)))
  have e31 : M30.2.2.2.2.2.1 = b + 13 := r30.nx (by decide +kernel)
  obtain ⟨M31, z31, r31⟩ : ∃ N_, q_new M30 5 4 = some N_ ∧ Rel b M0 zs_31 N_ := r30.oN rn rs (by decide +kernel) (by decide +kernel)
  obtain ⟨M32, z32, r32⟩ : ∃ N_, q_sR M31 5 M30.2.2.2.2.2.1 0 none = some N_ ∧ Rel b M0 zs_32 N_ := r31.oR (x := 13) e31 (by decide +kernel) (by decide +kernel) 0 none none rfl
  obtain ⟨M33, z33, r33⟩ : ∃ N_, q_sR M32 5 M30.2.2.2.2.2.1 1 none = some N_ ∧ Rel b M0 zs_33 N_ := r32.oR (x := 13) e31 (by decide +kernel) (by decide +kernel) 1 none none rfl
  have e34 : M33.2.2.2.2.2.1 = b + 14 := r33.nx (by decide +kernel)
  obtain ⟨M34, z34, r34⟩ : ∃ N_, q_newA M33 19 (nI 6) = some N_ ∧ Rel b M0 zs_34 N_ := r33.oA rn rs (by decide +kernel) (by decide +kernel)
  obtain ⟨M35, z35, r35⟩ : ∃ N_, q_sR M34 5 M30.2.2.2.2.2.1 2 (some M33.2.2.2.2.2.1) = some N_ ∧ Rel b M0 zs_35 N_ := r34.oR (x := 13) e31 (by decide +kernel) (by decide +kernel) 2 (some 14) (some M33.2.2.2.2.2.1) (congrArg some e34)
  obtain ⟨M36, z36, r36⟩ : ∃ N_, q_sI M35 5 M30.2.2.2.2.2.1 3 (nI 0) = some N_ ∧ Rel b M0 zs_36 N_ := r35.oI (x := 13) e31 (by decide +kernel) (by decide +kernel) 3 (nI 0)
  have c4 : q_CL 44 [.inr (.inr (some M30.2.2.2.2.2.1))] M31 = some (none, M36) := (C_X5_init M31 M30.2.2.2.2.2.1).trans (bs_ z32 (bs_ z33 (bs_ z34 (bs_ z35 (bs_ z36 (rfl))))))
  obtain ⟨M37, z37, r37⟩ : ∃ N_, q_bR M36 (b + 2) (nI 0) (some M30.2.2.2.2.2.1) = some N_ ∧ Rel b M0 zs_37 N_ := r36.oS (x := 2) (y := 13) rfl e31 (by decide +kernel) (by decide +kernel) (by decide +kernel) (by decide +kernel) (by decide +kernel) (by omega)
  have f5 : q_fR M37 8 b 2 = some (some (b + 2)) := (z_fR (r37.isT (x := 0) rfl (by decide +kernel) (by decide +kernel))).trans (congrArg some (r37.rf (x := 0) rfl (by decide +kernel) (by decide +kernel)))
  have e38 : M37.2.2.2.2.2.1 = b + 15 := r37.nx (by decide +kernel)
  obtain ⟨M38, z38, r38⟩ : ∃ N_, q_new M37 5 4 = some N_ ∧ Rel b M0 zs_38 N_ := r37.oN rn rs (by decide +kernel) (by decide +kernel)
  obtain ⟨M39, z39, r39⟩ : ∃ N_, q_sR M38 5 M37.2.2.2.2.2.1 0 none = some N_ ∧ Rel b M0 zs_39 N_ := r38.oR (x := 15) e38 (by decide +kernel) (by decide +kernel) 0 none none rfl
  obtain ⟨M40, z40, r40⟩ : ∃ N_, q_sR M39 5 M37.2.2.2.2.2.1 1 none = some N_ ∧ Rel b M0 zs_40 N_ := r39.oR (x := 15) e38 (by decide +kernel) (by decide +kernel) 1 none none rfl
  have e41 : M40.2.2.2.2.2.1 = b + 16 := r40.nx (by decide +kernel)
  obtain ⟨M41, z41, r41⟩ : ∃ N_, q_newA M40 19 (nI 6) = some N_ ∧ Rel b M0 zs_41 N_ := r40.oA rn rs (by decide +kernel) (by decide +kernel)
  obtain ⟨M42, z42, r42⟩ : ∃ N_, q_sR M41 5 M37.2.2.2.2.2.1 2 (some M40.2.2.2.2.2.1) = some N_ ∧ Rel b M0 zs_42 N_ := r41.oR (x := 15) e38 (by decide +kernel) (by decide +kernel) 2 (some 16) (some M40.2.2.2.2.2.1) (congrArg some e41)
  obtain ⟨M43, z43, r43⟩ : ∃ N_, q_sI M42 5 M37.2.2.2.2.2.1 3 (nI 0) = some N_ ∧ Rel b M0 zs_43 N_ := r42.oI (x := 15) e38 (by decide +kernel) (by decide +kernel) 3 (nI 0)
  have c6 : q_CL 44 [.inr (.inr (some M37.2.2.2.2.2.1))] M38 = some (none, M43) := (C_X5_init M38 M37.2.2.2.2.2.1).trans (bs_ z39 (bs_ z40 (bs_ z41 (bs_ z42 (bs_ z43 (rfl))))))
  obtain ⟨M44, z44, r44⟩ : ∃ N_, q_bR M43 (b + 2) (nI 1) (some M37.2.2.2.2.2.1) = some N_ ∧ Rel b M0 zs_44 N_ := r43.oS (x := 2) (y := 15) rfl e38 (by decide +kernel) (by decide +kernel) (by decide +kernel) (by decide +kernel) (by decide +kernel) (by omega)
  have f7 : q_fR M44 8 b 2 = some (some (b + 2)) := (z_fR (r44.isT (x := 0) rfl (by decide +kernel) (by decide +kernel))).trans (congrArg some (r44.rf (x := 0) rfl (by decide +kernel) (by decide +kernel)))
  have e45 : M44.2.2.2.2.2.1 = b + 17 := r44.nx (by decide +kernel)
  obtain ⟨M45, z45, r45⟩ : ∃ N_, q_new M44 5 4 = some N_ ∧ Rel b M0 zs_45 N_ := r44.oN rn rs (by decide +kernel) (by decide +kernel)
  obtain ⟨M46, z46, r46⟩ : ∃ N_, q_sR M45 5 M44.2.2.2.2.2.1 0 none = some N_ ∧ Rel b M0 zs_46 N_ := r45.oR (x := 17) e45 (by decide +kernel) (by decide +kernel) 0 none none rfl
  obtain ⟨M47, z47, r47⟩ : ∃ N_, q_sR M46 5 M44.2.2.2.2.2.1 1 none = some N_ ∧ Rel b M0 zs_47 N_ := r46.oR (x := 17) e45 (by decide +kernel) (by decide +kernel) 1 none none rfl
  have e48 : M47.2.2.2.2.2.1 = b + 18 := r47.nx (by decide +kernel)
  obtain ⟨M48, z48, r48⟩ : ∃ N_, q_newA M47 19 (nI 6) = some N_ ∧ Rel b M0 zs_48 N_ := r47.oA rn rs (by decide +kernel) (by decide +kernel)
  obtain ⟨M49, z49, r49⟩ : ∃ N_, q_sR M48 5 M44.2.2.2.2.2.1 2 (some M47.2.2.2.2.2.1) = some N_ ∧ Rel b M0 zs_49 N_ := r48.oR (x := 17) e45 (by decide +kernel) (by decide +kernel) 2 (some 18) (some M47.2.2.2.2.2.1) (congrArg some e48)
  obtain ⟨M50, z50, r50⟩ : ∃ N_, q_sI M49 5 M44.2.2.2.2.2.1 3 (nI 0) = some N_ ∧ Rel b M0 zs_50 N_ := r49.oI (x := 17) e45 (by decide +kernel) (by decide +kernel) 3 (nI 0)
  have c8 : q_CL 44 [.inr (.inr (some M44.2.2.2.2.2.1))] M45 = some (none, M50) := (C_X5_init M45 M44.2.2.2.2.2.1).trans (bs_ z46 (bs_ z47 (bs_ z48 (bs_ z49 (bs_ z50 (rfl))))))
  obtain ⟨M51, z51, r51⟩ : ∃ N_, q_bR M50 (b + 2) (nI 2) (some M44.2.2.2.2.2.1) = some N_ ∧ Rel b M0 zs_51 N_ := r50.oS (x := 2) (y := 17) rfl e45 (by decide +kernel) (by decide +kernel) (by decide +kernel) (by decide +kernel) (by decide +kernel) (by omega)
  have f9 : q_fR M51 8 b 2 = some (some (b + 2)) := (z_fR (r51.isT (x := 0) rfl (by decide +kernel) (by decide +kernel))).trans (congrArg some (r51.rf (x := 0) rfl (by decide +kernel) (by decide +kernel)))
  have e52 : M51.2.2.2.2.2.1 = b + 19 := r51.nx (by decide +kernel)
  obtain ⟨M52, z52, r52⟩ : ∃ N_, q_new M51 5 4 = some N_ ∧ Rel b M0 zs_52 N_ := r51.oN rn rs (by decide +kernel) (by decide +kernel)
  obtain ⟨M53, z53, r53⟩ : ∃ N_, q_sR M52 5 M51.2.2.2.2.2.1 0 none = some N_ ∧ Rel b M0 zs_53 N_ := r52.oR (x := 19) e52 (by decide +kernel) (by decide +kernel) 0 none none rfl
  obtain ⟨M54, z54, r54⟩ : ∃ N_, q_sR M53 5 M51.2.2.2.2.2.1 1 none = some N_ ∧ Rel b M0 zs_54 N_ := r53.oR (x := 19) e52 (by decide +kernel) (by decide +kernel) 1 none none rfl
  have e55 : M54.2.2.2.2.2.1 = b + 20 := r54.nx (by decide +kernel)
  obtain ⟨M55, z55, r55⟩ : ∃ N_, q_newA M54 19 (nI 6) = some N_ ∧ Rel b M0 zs_55 N_ := r54.oA rn rs (by decide +kernel) (by decide +kernel)
  obtain ⟨M56, z56, r56⟩ : ∃ N_, q_sR M55 5 M51.2.2.2.2.2.1 2 (some M54.2.2.2.2.2.1) = some N_ ∧ Rel b M0 zs_56 N_ := r55.oR (x := 19) e52 (by decide +kernel) (by decide +kernel) 2 (some 20) (some M54.2.2.2.2.2.1) (congrArg some e55)
  obtain ⟨M57, z57, r57⟩ : ∃ N_, q_sI M56 5 M51.2.2.2.2.2.1 3 (nI 0) = some N_ ∧ Rel b M0 zs_57 N_ := r56.oI (x := 19) e52 (by decide +kernel) (by decide +kernel) 3 (nI 0)
  have c10 : q_CL 44 [.inr (.inr (some M51.2.2.2.2.2.1))] M52 = some (none, M57) := (C_X5_init M52 M51.2.2.2.2.2.1).trans (bs_ z53 (bs_ z54 (bs_ z55 (bs_ z56 (bs_ z57 (rfl))))))
  obtain ⟨M58, z58, r58⟩ : ∃ N_, q_bR M57 (b + 2) (nI 3) (some M51.2.2.2.2.2.1) = some N_ ∧ Rel b M0 zs_58 N_ := r57.oS (x := 2) (y := 19) rfl e52 (by decide +kernel) (by decide +kernel) (by decide +kernel) (by decide +kernel) (by decide +kernel) (by omega)
  have f11 : q_fR M58 8 b 6 = some (some (b + 10)) := (z_fR (r58.isT (x := 0) rfl (by decide +kernel) (by decide +kernel))).trans (congrArg some (r58.rf (x := 0) rfl (by decide +kernel) (by decide +kernel)))
  have ln12 : q_len M58 (b + 10) = some (nI 8) := by unfold q_len; rw [r58.tg (x := 10) (t := 14) rfl (by decide +kernel) (by decide +kernel), if_pos (by omega), r58.ln (x := 10) (t := 8) rfl (by decide +kernel) (by decide +kernel)]; rfl
  obtain ⟨M59, z59, r59⟩ : ∃ N_, q_bI M58 14 (b + 10) (nI 0) (nI 3) = some N_ ∧ Rel b M0 zs_59 N_ := r58.oBI (x := 10) (n := 8) rfl (by decide +kernel) (by decide +kernel) (by decide +kernel) (by omega) (by omega)
  obtain ⟨M60, z60, r60⟩ : ∃ N_, q_bI M59 14 (b + 10) (nI 1) (nI 3) = some N_ ∧ Rel b M0 zs_60 N_ := r59.oBI (x := 10) (n := 8) rfl (by decide +kernel) (by decide +kernel) (by decide +kernel) (by omega) (by omega)
  obtain ⟨M61, z61, r61⟩ : ∃ N_, q_bI M60 14 (b + 10) (nI 2) (nI 3) = some N_ ∧ Rel b M0 zs_61 N_ := r60.oBI (x := 10) (n := 8) rfl (by decide +kernel) (by decide +kernel) (by decide +kernel) (by omega) (by omega)
  obtain ⟨M62, z62, r62⟩ : ∃ N_, q_bI M61 14 (b + 10) (nI 3) (nI 3) = some N_ ∧ Rel b M0 zs_62 N_ := r61.oBI (x := 10) (n := 8) rfl (by decide +kernel) (by decide +kernel) (by decide +kernel) (by omega) (by omega)
  obtain ⟨M63, z63, r63⟩ : ∃ N_, q_bI M62 14 (b + 10) (nI 4) (nI 3) = some N_ ∧ Rel b M0 zs_63 N_ := r62.oBI (x := 10) (n := 8) rfl (by decide +kernel) (by decide +kernel) (by decide +kernel) (by omega) (by omega)
  obtain ⟨M64, z64, r64⟩ : ∃ N_, q_bI M63 14 (b + 10) (nI 5) (nI 3) = some N_ ∧ Rel b M0 zs_64 N_ := r63.oBI (x := 10) (n := 8) rfl (by decide +kernel) (by decide +kernel) (by decide +kernel) (by omega) (by omega)
  obtain ⟨M65, z65, r65⟩ : ∃ N_, q_bI M64 14 (b + 10) (nI 6) (nI 3) = some N_ ∧ Rel b M0 zs_65 N_ := r64.oBI (x := 10) (n := 8) rfl (by decide +kernel) (by decide +kernel) (by decide +kernel) (by omega) (by omega)
  obtain ⟨M66, z66, r66⟩ : ∃ N_, q_bI M65 14 (b + 10) (nI 7) (nI 3) = some N_ ∧ Rel b M0 zs_66 N_ := r65.oBI (x := 10) (n := 8) rfl (by decide +kernel) (by decide +kernel) (by decide +kernel) (by omega) (by omega)
  have g8 : q_RL T_J7_fill_53178 (5, [some (.inr (.inr (some (b + 10)))), some (.inl (nI 3)), some (.inl (nI 8)), some (.inl (nI 8))], [], M66) = some (none, M66) := by rw [E_J7_fill_53178_5, if_pos (nI_le (Nat.le_refl _) (by omega))]
  have g7 : q_RL T_J7_fill_53178 (5, [some (.inr (.inr (some (b + 10)))), some (.inl (nI 3)), some (.inl (nI 7)), some (.inl (nI 8))], [], M65) = some (none, M66) := by rw [E_J7_fill_53178_5, if_neg (nI_ge (by omega) (by omega)), nI_1]; exact bs_ rfl (bs_ z66 (g8))
  have g6 : q_RL T_J7_fill_53178 (5, [some (.inr (.inr (some (b + 10)))), some (.inl (nI 3)), some (.inl (nI 6)), some (.inl (nI 8))], [], M64) = some (none, M66) := by rw [E_J7_fill_53178_5, if_neg (nI_ge (by omega) (by omega)), nI_1]; exact bs_ rfl (bs_ z65 (g7))
  have g5 : q_RL T_J7_fill_53178 (5, [some (.inr (.inr (some (b + 10)))), some (.inl (nI 3)), some (.inl (nI 5)), some (.inl (nI 8))], [], M63) = some (none, M66) := by rw [E_J7_fill_53178_5, if_neg (nI_ge (by omega) (by omega)), nI_1]; exact bs_ rfl (bs_ z64 (g6))
  have g4 : q_RL T_J7_fill_53178 (5, [some (.inr (.inr (some (b + 10)))), some (.inl (nI 3)), some (.inl (nI 4)), some (.inl (nI 8))], [], M62) = some (none, M66) := by rw [E_J7_fill_53178_5, if_neg (nI_ge (by omega) (by omega)), nI_1]; exact bs_ rfl (bs_ z63 (g5))
  have g3 : q_RL T_J7_fill_53178 (5, [some (.inr (.inr (some (b + 10)))), some (.inl (nI 3)), some (.inl (nI 3)), some (.inl (nI 8))], [], M61) = some (none, M66) := by rw [E_J7_fill_53178_5, if_neg (nI_ge (by omega) (by omega)), nI_1]; exact bs_ rfl (bs_ z62 (g4))
  have g2 : q_RL T_J7_fill_53178 (5, [some (.inr (.inr (some (b + 10)))), some (.inl (nI 3)), some (.inl (nI 2)), some (.inl (nI 8))], [], M60) = some (none, M66) := by rw [E_J7_fill_53178_5, if_neg (nI_ge (by omega) (by omega)), nI_1]; exact bs_ rfl (bs_ z61 (g3))
  have g1 : q_RL T_J7_fill_53178 (5, [some (.inr (.inr (some (b + 10)))), some (.inl (nI 3)), some (.inl (nI 1)), some (.inl (nI 8))], [], M59) = some (none, M66) := by rw [E_J7_fill_53178_5, if_neg (nI_ge (by omega) (by omega)), nI_1]; exact bs_ rfl (bs_ z60 (g2))
  have g0 : q_RL T_J7_fill_53178 (5, [some (.inr (.inr (some (b + 10)))), some (.inl (nI 3)), some (.inl (nI 0)), some (.inl (nI 8))], [], M58) = some (none, M66) := by rw [E_J7_fill_53178_5, if_neg (nI_ge (by omega) (by omega)), nI_1]; exact bs_ rfl (bs_ z59 (g1))
  have gf : q_CL 234 [.inr (.inr (some (b + 10))), .inl (nI 3)] M58 = some (none, M66) := (C_J7_fill_53178 M58 (some (b + 10)) (nI 3)).trans (bs_ rfl (bs_ ln12 (g0)))
  have h4 : q_RL T_X8_init (85, [some (.inr (.inr (some b))), some (.inl (nI 4))], [], M58) = some (none, M66) := by rw [E_X8_init_85, if_pos (nI_le (Nat.le_refl _) (by omega))]; exact bs_ f11 (bs_ (congrArg q_rV gf) (rfl))
  have h3 : q_RL T_X8_init (85, [some (.inr (.inr (some b))), some (.inl (nI 3))], [], M51) = some (none, M66) := by rw [E_X8_init_85, if_neg (nI_ge (by omega) (by omega)), nI_1]; exact bs_ f9 (bs_ z52 (bs_ (congrArg q_rV c10) (bs_ rfl (bs_ z58 (h4)))))
  have h2 : q_RL T_X8_init (85, [some (.inr (.inr (some b))), some (.inl (nI 2))], [], M44) = some (none, M66) := by rw [E_X8_init_85, if_neg (nI_ge (by omega) (by omega)), nI_1]; exact bs_ f7 (bs_ z45 (bs_ (congrArg q_rV c8) (bs_ rfl (bs_ z51 (h3)))))
  have h1 : q_RL T_X8_init (85, [some (.inr (.inr (some b))), some (.inl (nI 1))], [], M37) = some (none, M66) := by rw [E_X8_init_85, if_neg (nI_ge (by omega) (by omega)), nI_1]; exact bs_ f5 (bs_ z38 (bs_ (congrArg q_rV c6) (bs_ rfl (bs_ z44 (h2)))))
  have h0 : q_RL T_X8_init (85, [some (.inr (.inr (some b))), some (.inl (nI 0))], [], M30) = some (none, M66) := by rw [E_X8_init_85, if_neg (nI_ge (by omega) (by omega)), nI_1]; exact bs_ f3 (bs_ z31 (bs_ (congrArg q_rV c4) (bs_ rfl (bs_ z37 (h1)))))
  have c13 : q_CL 58 [.inr (.inr (some b))] M1 = some (none, M66) := (C_X8_init M1 b).trans (bs_ z2 (bs_ z3 (bs_ z4 (bs_ z5 (bs_ z6 (bs_ z7 (bs_ z8 (bs_ z9 (bs_ (congrArg q_rV c1) (bs_ z16 (bs_ z17 (bs_ (congrArg q_rV c2) (bs_ z24 (bs_ z25 (bs_ z26 (bs_ z27 (bs_ z28 (bs_ z29 (bs_ z30 (h0))))))))))))))))))))
  exact ⟨M1, M66, z1, c13, r66⟩
