/-! ===== THE LAW'S TWO OBJECTS ===== -/
def zl_0 : q_M := gE
def zl_1 : q_M := q_born zl_0 11 9
def zl_2 : q_M := q_born zl_1 8 9
def zl_3 : q_M := q_born zl_2 17 8
def zl_4 : q_M := stR zl_3 1 0 (some 2)
def zl_5 : q_M := stI zl_4 1 1 (nI 0)
def zl_6 : q_M := q_born zl_5 20 4
def zl_7 : q_M := stR zl_6 1 2 (some 3)
def zl_8 : q_M := q_born zl_7 14 6
def zl_9 : q_M := stR zl_8 1 3 (some 4)
def zl_10 : q_M := q_born zl_9 7 4
def zl_11 : q_M := q_born zl_10 15 200
def zl_12 : q_M := stR zl_11 5 0 (some 6)
def zl_13 : q_M := q_born zl_12 15 200
def zl_14 : q_M := stR zl_13 5 1 (some 7)
def zl_15 : q_M := stI zl_14 5 2 (nI 0)
def zl_16 : q_M := stL zl_15 5 3 (lN 0)
def zl_17 : q_M := stR zl_16 1 4 (some 5)
def zl_18 : q_M := q_born zl_17 1 4
def zl_19 : q_M := stI zl_18 8 2 (nI 0)
def zl_20 : q_M := stI zl_19 8 3 (nI 0)
def zl_21 : q_M := q_born zl_20 18 300
def zl_22 : q_M := stR zl_21 8 0 (some 9)
def zl_23 : q_M := q_born zl_22 15 300
def zl_24 : q_M := stR zl_23 8 1 (some 10)
def zl_25 : q_M := stR zl_24 1 5 (some 8)
def zl_26 : q_M := q_born zl_25 14 8
def zl_27 : q_M := stR zl_26 1 6 (some 11)
def zl_28 : q_M := q_born zl_27 15 8
def zl_29 : q_M := stR zl_28 1 7 (some 12)
def zl_30 : q_M := q_born zl_29 15 8
def zl_31 : q_M := stR zl_30 1 8 (some 13)
def zl_32 : q_M := q_born zl_31 5 4
def zl_33 : q_M := stR zl_32 14 0 none
def zl_34 : q_M := stR zl_33 14 1 none
def zl_35 : q_M := q_born zl_34 19 6
def zl_36 : q_M := stR zl_35 14 2 (some 15)
def zl_37 : q_M := stI zl_36 14 3 (nI 0)
def zl_38 : q_M := stR zl_37 3 0 (some 14)
def zl_39 : q_M := q_born zl_38 5 4
def zl_40 : q_M := stR zl_39 16 0 none
def zl_41 : q_M := stR zl_40 16 1 none
def zl_42 : q_M := q_born zl_41 19 6
def zl_43 : q_M := stR zl_42 16 2 (some 17)
def zl_44 : q_M := stI zl_43 16 3 (nI 0)
def zl_45 : q_M := stR zl_44 3 1 (some 16)
def zl_46 : q_M := q_born zl_45 5 4
def zl_47 : q_M := stR zl_46 18 0 none
def zl_48 : q_M := stR zl_47 18 1 none
def zl_49 : q_M := q_born zl_48 19 6
def zl_50 : q_M := stR zl_49 18 2 (some 19)
def zl_51 : q_M := stI zl_50 18 3 (nI 0)
def zl_52 : q_M := stR zl_51 3 2 (some 18)
def zl_53 : q_M := q_born zl_52 5 4
def zl_54 : q_M := stR zl_53 20 0 none
def zl_55 : q_M := stR zl_54 20 1 none
def zl_56 : q_M := q_born zl_55 19 6
def zl_57 : q_M := stR zl_56 20 2 (some 21)
def zl_58 : q_M := stI zl_57 20 3 (nI 0)
def zl_59 : q_M := stR zl_58 3 3 (some 20)
def zl_60 : q_M := stI zl_59 11 0 (nI 3)
def zl_61 : q_M := stI zl_60 11 1 (nI 3)
def zl_62 : q_M := stI zl_61 11 2 (nI 3)
def zl_63 : q_M := stI zl_62 11 3 (nI 3)
def zl_64 : q_M := stI zl_63 11 4 (nI 3)
def zl_65 : q_M := stI zl_64 11 5 (nI 3)
def zl_66 : q_M := stI zl_65 11 6 (nI 3)
def zl_67 : q_M := stI zl_66 11 7 (nI 3)
def zl_68 : q_M := stR zl_67 0 0 (some 1)
def zl_69 : q_M := q_born zl_68 21 2
def zl_70 : q_M := stR zl_69 0 1 (some 22)
def zl_71 : q_M := q_born zl_70 13 2700
def zl_72 : q_M := stR zl_71 0 2 (some 23)
def zl_73 : q_M := stI zl_72 0 3 (nI 0)
def zl_74 : q_M := q_born zl_73 10 9
def zl_75 : q_M := b61 zl_74
def zl_76 : q_M := stR zl_75 24 0 (some 25)
def zl_77 : q_M := b61 zl_76
def zl_78 : q_M := stR zl_77 24 1 (some 29)
def zl_79 : q_M := q_born zl_78 14 61
def zl_80 : q_M := stR zl_79 24 2 (some 33)
def zl_81 : q_M := q_born zl_80 15 61
def zl_82 : q_M := stR zl_81 24 3 (some 34)
def zl_83 : q_M := q_born zl_82 14 61
def zl_84 : q_M := stR zl_83 24 4 (some 35)
def zl_85 : q_M := q_born zl_84 14 3
def zl_86 : q_M := stR zl_85 24 5 (some 36)
def zl_87 : q_M := q_born zl_86 14 3
def zl_88 : q_M := stR zl_87 24 6 (some 37)
def zl_89 : q_M := stR zl_88 24 7 none
def zl_90 : q_M := stI zl_89 24 8 (nI 0)
def zl_91 : q_M := stR zl_90 0 4 (some 24)
def zl_92 : q_M := q_born zl_91 4 6
def zl_93 : q_M := q_born zl_92 15 300
def zl_94 : q_M := stR zl_93 38 0 (some 39)
def zl_95 : q_M := q_born zl_94 16 300
def zl_96 : q_M := stR zl_95 38 1 (some 40)
def zl_97 : q_M := stI zl_96 38 2 (nI 0)
def zl_98 : q_M := stI zl_97 38 3 (nI 0)
def zl_99 : q_M := stI zl_98 38 4 (nI 0)
def zl_100 : q_M := stI zl_99 38 5 (nI 0)
def zl_101 : q_M := stR zl_100 0 5 (some 38)
def zl_102 : q_M := q_born zl_101 7 4
def zl_103 : q_M := q_born zl_102 15 200
def zl_104 : q_M := stR zl_103 41 0 (some 42)
def zl_105 : q_M := q_born zl_104 15 200
def zl_106 : q_M := stR zl_105 41 1 (some 43)
def zl_107 : q_M := stI zl_106 41 2 (nI 0)
def zl_108 : q_M := stL zl_107 41 3 (lN 0)
def zl_109 : q_M := stR zl_108 0 6 (some 41)
def zl_110 : q_M := q_born zl_109 1 4
def zl_111 : q_M := stI zl_110 44 2 (nI 0)
def zl_112 : q_M := stI zl_111 44 3 (nI 0)
def zl_113 : q_M := q_born zl_112 18 20
def zl_114 : q_M := stR zl_113 44 0 (some 45)
def zl_115 : q_M := q_born zl_114 15 20
def zl_116 : q_M := stR zl_115 44 1 (some 46)
def zl_117 : q_M := stR zl_116 0 7 (some 44)
def zl_118 : q_M := q_born zl_117 16 301
def zl_119 : q_M := stR zl_118 0 8 (some 47)
def zl_120 : q_M := q_born zl_119 12 21
def zl_121 : q_M := q_born zl_120 15 60190
def zl_122 : q_M := stR zl_121 48 0 (some 49)
def zl_123 : q_M := q_born zl_122 15 120380
def zl_124 : q_M := stR zl_123 48 1 (some 50)
def zl_125 : q_M := q_born zl_124 16 2
def zl_126 : q_M := stR zl_125 48 2 (some 51)
def zl_127 : q_M := stI zl_126 48 3 (nI 2)
def zl_128 : q_M := stI zl_127 48 4 (nI 0)
def zl_129 : q_M := q_born zl_128 14 60
def zl_130 : q_M := stR zl_129 48 5 (some 52)
def zl_131 : q_M := q_born zl_130 14 60
def zl_132 : q_M := stR zl_131 48 6 (some 53)
def zl_133 : q_M := q_born zl_132 14 3
def zl_134 : q_M := stR zl_133 48 7 (some 54)
def zl_135 : q_M := q_born zl_134 14 3
def zl_136 : q_M := stR zl_135 48 8 (some 55)
def zl_137 : q_M := q_born zl_136 14 3
def zl_138 : q_M := stR zl_137 48 9 (some 56)
def zl_139 : q_M := stI zl_138 48 10 (nI 0)
def zl_140 : q_M := stI zl_139 48 11 (nI 0)
def zl_141 : q_M := q_born zl_140 15 402
def zl_142 : q_M := stR zl_141 48 12 (some 57)
def zl_143 : q_M := stI zl_142 48 13 (nI 0)
def zl_144 : q_M := q_born zl_143 14 3
def zl_145 : q_M := stR zl_144 48 14 (some 58)
def zl_146 : q_M := q_born zl_145 16 300
def zl_147 : q_M := stR zl_146 48 15 (some 59)
def zl_148 : q_M := q_born zl_147 16 300
def zl_149 : q_M := stR zl_148 48 16 (some 60)
def zl_150 : q_M := stL zl_149 48 17 (lN 0)
def zl_151 : q_M := stL zl_150 48 18 (lN 0)
def zl_152 : q_M := q_born zl_151 13 2700
def zl_153 : q_M := stR zl_152 48 19 (some 61)
def zl_154 : q_M := stI zl_153 48 20 (nI 0)
def lwG : q_M := zl_154
theorem N_law {M0 : q_M} {b : Nat} (eb : gN M0 = b) (rn : gN M0 + 100 ≤ 600000) (rs : gS M0 + 300000 ≤ 7302250) : ∃ A B C D, q_new M0 11 9 = some A ∧ q_CL 80 [.inr (.inr (some b))] A = some (none, B) ∧ q_new B 12 21 = some C ∧ B.2.2.2.2.2.1 = b + 48 ∧ q_CL 140 [.inr (.inr (some B.2.2.2.2.2.1))] C = some (none, D) ∧ Rel b M0 lwG D := by
  have r0 : Rel b M0 zl_0 M0 := Rel.start eb
  obtain ⟨M1, z1, r1⟩ : ∃ N_, q_new M0 11 9 = some N_ ∧ Rel b M0 zl_1 N_ := r0.oN rn rs (by decide +kernel) (by decide +kernel)
  have e2 : M1.2.2.2.2.2.1 = b + 1 := r1.nx (by decide +kernel)
  obtain ⟨M2, z2, r2⟩ : ∃ N_, q_new M1 8 9 = some N_ ∧ Rel b M0 zl_2 N_ := r1.oN rn rs (by decide +kernel) (by decide +kernel)
  have e3 : M2.2.2.2.2.2.1 = b + 2 := r2.nx (by decide +kernel)
  obtain ⟨M3, z3, r3⟩ : ∃ N_, q_newA M2 17 (nI 8) = some N_ ∧ Rel b M0 zl_3 N_ := r2.oA rn rs (by decide +kernel) (by decide +kernel)
  obtain ⟨M4, z4, r4⟩ : ∃ N_, q_sR M3 8 M1.2.2.2.2.2.1 0 (some M2.2.2.2.2.2.1) = some N_ ∧ Rel b M0 zl_4 N_ := r3.oR (x := 1) e2 (by decide +kernel) (by decide +kernel) 0 (some 2) (some M2.2.2.2.2.2.1) (congrArg some e3)
  obtain ⟨M5, z5, r5⟩ : ∃ N_, q_sI M4 8 M1.2.2.2.2.2.1 1 (nI 0) = some N_ ∧ Rel b M0 zl_5 N_ := r4.oI (x := 1) e2 (by decide +kernel) (by decide +kernel) 1 (nI 0)
  have e6 : M5.2.2.2.2.2.1 = b + 3 := r5.nx (by decide +kernel)
  obtain ⟨M6, z6, r6⟩ : ∃ N_, q_newA M5 20 (nI 4) = some N_ ∧ Rel b M0 zl_6 N_ := r5.oA rn rs (by decide +kernel) (by decide +kernel)
  obtain ⟨M7, z7, r7⟩ : ∃ N_, q_sR M6 8 M1.2.2.2.2.2.1 2 (some M5.2.2.2.2.2.1) = some N_ ∧ Rel b M0 zl_7 N_ := r6.oR (x := 1) e2 (by decide +kernel) (by decide +kernel) 2 (some 3) (some M5.2.2.2.2.2.1) (congrArg some e6)
  have e8 : M7.2.2.2.2.2.1 = b + 4 := r7.nx (by decide +kernel)
  obtain ⟨M8, z8, r8⟩ : ∃ N_, q_newA M7 14 (nI 6) = some N_ ∧ Rel b M0 zl_8 N_ := r7.oA rn rs (by decide +kernel) (by decide +kernel)
  obtain ⟨M9, z9, r9⟩ : ∃ N_, q_sR M8 8 M1.2.2.2.2.2.1 3 (some M7.2.2.2.2.2.1) = some N_ ∧ Rel b M0 zl_9 N_ := r8.oR (x := 1) e2 (by decide +kernel) (by decide +kernel) 3 (some 4) (some M7.2.2.2.2.2.1) (congrArg some e8)
  have e10 : M9.2.2.2.2.2.1 = b + 5 := r9.nx (by decide +kernel)
  obtain ⟨M10, z10, r10⟩ : ∃ N_, q_new M9 7 4 = some N_ ∧ Rel b M0 zl_10 N_ := r9.oN rn rs (by decide +kernel) (by decide +kernel)
  have e11 : M10.2.2.2.2.2.1 = b + 6 := r10.nx (by decide +kernel)
  obtain ⟨M11, z11, r11⟩ : ∃ N_, q_newA M10 15 (nI 200) = some N_ ∧ Rel b M0 zl_11 N_ := r10.oA rn rs (by decide +kernel) (by decide +kernel)
  obtain ⟨M12, z12, r12⟩ : ∃ N_, q_sR M11 7 M9.2.2.2.2.2.1 0 (some M10.2.2.2.2.2.1) = some N_ ∧ Rel b M0 zl_12 N_ := r11.oR (x := 5) e10 (by decide +kernel) (by decide +kernel) 0 (some 6) (some M10.2.2.2.2.2.1) (congrArg some e11)
  have e13 : M12.2.2.2.2.2.1 = b + 7 := r12.nx (by decide +kernel)
  obtain ⟨M13, z13, r13⟩ : ∃ N_, q_newA M12 15 (nI 200) = some N_ ∧ Rel b M0 zl_13 N_ := r12.oA rn rs (by decide +kernel) (by decide +kernel)
  obtain ⟨M14, z14, r14⟩ : ∃ N_, q_sR M13 7 M9.2.2.2.2.2.1 1 (some M12.2.2.2.2.2.1) = some N_ ∧ Rel b M0 zl_14 N_ := r13.oR (x := 5) e10 (by decide +kernel) (by decide +kernel) 1 (some 7) (some M12.2.2.2.2.2.1) (congrArg some e13)
  obtain ⟨M15, z15, r15⟩ : ∃ N_, q_sI M14 7 M9.2.2.2.2.2.1 2 (nI 0) = some N_ ∧ Rel b M0 zl_15 N_ := r14.oI (x := 5) e10 (by decide +kernel) (by decide +kernel) 2 (nI 0)
  obtain ⟨M16, z16, r16⟩ : ∃ N_, q_sL M15 7 M9.2.2.2.2.2.1 3 (lN 0) = some N_ ∧ Rel b M0 zl_16 N_ := r15.oL (x := 5) e10 (by decide +kernel) (by decide +kernel) 3 (lN 0)
  have c1 : q_CL 52 [.inr (.inr (some M9.2.2.2.2.2.1))] M10 = some (none, M16) := (C_X7_init M10 M9.2.2.2.2.2.1).trans (bs_ z11 (bs_ z12 (bs_ z13 (bs_ z14 (bs_ z15 (bs_ z16 (rfl)))))))
  obtain ⟨M17, z17, r17⟩ : ∃ N_, q_sR M16 8 M1.2.2.2.2.2.1 4 (some M9.2.2.2.2.2.1) = some N_ ∧ Rel b M0 zl_17 N_ := r16.oR (x := 1) e2 (by decide +kernel) (by decide +kernel) 4 (some 5) (some M9.2.2.2.2.2.1) (congrArg some e10)
  have e18 : M17.2.2.2.2.2.1 = b + 8 := r17.nx (by decide +kernel)
  obtain ⟨M18, z18, r18⟩ : ∃ N_, q_new M17 1 4 = some N_ ∧ Rel b M0 zl_18 N_ := r17.oN rn rs (by decide +kernel) (by decide +kernel)
  obtain ⟨M19, z19, r19⟩ : ∃ N_, q_sI M18 1 M17.2.2.2.2.2.1 2 (nI 0) = some N_ ∧ Rel b M0 zl_19 N_ := r18.oI (x := 8) e18 (by decide +kernel) (by decide +kernel) 2 (nI 0)
  obtain ⟨M20, z20, r20⟩ : ∃ N_, q_sI M19 1 M17.2.2.2.2.2.1 3 (nI 0) = some N_ ∧ Rel b M0 zl_20 N_ := r19.oI (x := 8) e18 (by decide +kernel) (by decide +kernel) 3 (nI 0)
  have e21 : M20.2.2.2.2.2.1 = b + 9 := r20.nx (by decide +kernel)
  obtain ⟨M21, z21, r21⟩ : ∃ N_, q_newA M20 18 (nI 300) = some N_ ∧ Rel b M0 zl_21 N_ := r20.oA rn rs (by decide +kernel) (by decide +kernel)
  obtain ⟨M22, z22, r22⟩ : ∃ N_, q_sR M21 1 M17.2.2.2.2.2.1 0 (some M20.2.2.2.2.2.1) = some N_ ∧ Rel b M0 zl_22 N_ := r21.oR (x := 8) e18 (by decide +kernel) (by decide +kernel) 0 (some 9) (some M20.2.2.2.2.2.1) (congrArg some e21)
  have e23 : M22.2.2.2.2.2.1 = b + 10 := r22.nx (by decide +kernel)
  obtain ⟨M23, z23, r23⟩ : ∃ N_, q_newA M22 15 (nI 300) = some N_ ∧ Rel b M0 zl_23 N_ := r22.oA rn rs (by decide +kernel) (by decide +kernel)
  obtain ⟨M24, z24, r24⟩ : ∃ N_, q_sR M23 1 M17.2.2.2.2.2.1 1 (some M22.2.2.2.2.2.1) = some N_ ∧ Rel b M0 zl_24 N_ := r23.oR (x := 8) e18 (by decide +kernel) (by decide +kernel) 1 (some 10) (some M22.2.2.2.2.2.1) (congrArg some e23)
  have c2 : q_CL 7 [.inr (.inr (some M17.2.2.2.2.2.1)), .inl (nI 300)] M18 = some (none, M24) := (C_X1_init M18 M17.2.2.2.2.2.1 (nI 300)).trans (bs_ z19 (bs_ z20 (bs_ z21 (bs_ z22 (bs_ z23 (bs_ z24 (rfl)))))))
  obtain ⟨M25, z25, r25⟩ : ∃ N_, q_sR M24 8 M1.2.2.2.2.2.1 5 (some M17.2.2.2.2.2.1) = some N_ ∧ Rel b M0 zl_25 N_ := r24.oR (x := 1) e2 (by decide +kernel) (by decide +kernel) 5 (some 8) (some M17.2.2.2.2.2.1) (congrArg some e18)
  have e26 : M25.2.2.2.2.2.1 = b + 11 := r25.nx (by decide +kernel)
  obtain ⟨M26, z26, r26⟩ : ∃ N_, q_newA M25 14 (nI 8) = some N_ ∧ Rel b M0 zl_26 N_ := r25.oA rn rs (by decide +kernel) (by decide +kernel)
  obtain ⟨M27, z27, r27⟩ : ∃ N_, q_sR M26 8 M1.2.2.2.2.2.1 6 (some M25.2.2.2.2.2.1) = some N_ ∧ Rel b M0 zl_27 N_ := r26.oR (x := 1) e2 (by decide +kernel) (by decide +kernel) 6 (some 11) (some M25.2.2.2.2.2.1) (congrArg some e26)
  have e28 : M27.2.2.2.2.2.1 = b + 12 := r27.nx (by decide +kernel)
  obtain ⟨M28, z28, r28⟩ : ∃ N_, q_newA M27 15 (nI 8) = some N_ ∧ Rel b M0 zl_28 N_ := r27.oA rn rs (by decide +kernel) (by decide +kernel)
  obtain ⟨M29, z29, r29⟩ : ∃ N_, q_sR M28 8 M1.2.2.2.2.2.1 7 (some M27.2.2.2.2.2.1) = some N_ ∧ Rel b M0 zl_29 N_ := r28.oR (x := 1) e2 (by decide +kernel) (by decide +kernel) 7 (some 12) (some M27.2.2.2.2.2.1) (congrArg some e28)
  have e30 : M29.2.2.2.2.2.1 = b + 13 := r29.nx (by decide +kernel)
  obtain ⟨M30, z30, r30⟩ : ∃ N_, q_newA M29 15 (nI 8) = some N_ ∧ Rel b M0 zl_30 N_ := r29.oA rn rs (by decide +kernel) (by decide +kernel)
  obtain ⟨M31, z31, r31⟩ : ∃ N_, q_sR M30 8 M1.2.2.2.2.2.1 8 (some M29.2.2.2.2.2.1) = some N_ ∧ Rel b M0 zl_31 N_ := r30.oR (x := 1) e2 (by decide +kernel) (by decide +kernel) 8 (some 13) (some M29.2.2.2.2.2.1) (congrArg some e30)
  have f3 : q_fR M31 8 M1.2.2.2.2.2.1 2 = some (some (b + 3)) := (z_fR (r31.isT (x := 1) e2 (by decide +kernel) (by decide +kernel))).trans (congrArg some (r31.rf (x := 1) e2 (by decide +kernel) (by decide +kernel)))
  have e32 : M31.2.2.2.2.2.1 = b + 14 := r31.nx (by decide +kernel)
  obtain ⟨M32, z32, r32⟩ : ∃ N_, q_new M31 5 4 = some N_ ∧ Rel b M0 zl_32 N_ := r31.oN rn rs (by decide +kernel) (by decide +kernel)
  obtain ⟨M33, z33, r33⟩ : ∃ N_, q_sR M32 5 M31.2.2.2.2.2.1 0 none = some N_ ∧ Rel b M0 zl_33 N_ := r32.oR (x := 14) e32 (by decide +kernel) (by decide +kernel) 0 none none rfl
  obtain ⟨M34, z34, r34⟩ : ∃ N_, q_sR M33 5 M31.2.2.2.2.2.1 1 none = some N_ ∧ Rel b M0 zl_34 N_ := r33.oR (x := 14) e32 (by decide +kernel) (by decide +kernel) 1 none none rfl
  have e35 : M34.2.2.2.2.2.1 = b + 15 := r34.nx (by decide +kernel)
  obtain ⟨M35, z35, r35⟩ : ∃ N_, q_newA M34 19 (nI 6) = some N_ ∧ Rel b M0 zl_35 N_ := r34.oA rn rs (by decide +kernel) (by decide +kernel)
  obtain ⟨M36, z36, r36⟩ : ∃ N_, q_sR M35 5 M31.2.2.2.2.2.1 2 (some M34.2.2.2.2.2.1) = some N_ ∧ Rel b M0 zl_36 N_ := r35.oR (x := 14) e32 (by decide +kernel) (by decide +kernel) 2 (some 15) (some M34.2.2.2.2.2.1) (congrArg some e35)
  obtain ⟨M37, z37, r37⟩ : ∃ N_, q_sI M36 5 M31.2.2.2.2.2.1 3 (nI 0) = some N_ ∧ Rel b M0 zl_37 N_ := r36.oI (x := 14) e32 (by decide +kernel) (by decide +kernel) 3 (nI 0)
  have c4 : q_CL 44 [.inr (.inr (some M31.2.2.2.2.2.1))] M32 = some (none, M37) := (C_X5_init M32 M31.2.2.2.2.2.1).trans (bs_ z33 (bs_ z34 (bs_ z35 (bs_ z36 (bs_ z37 (rfl))))))
  obtain ⟨M38, z38, r38⟩ : ∃ N_, q_bR M37 (b + 3) (nI 0) (some M31.2.2.2.2.2.1) = some N_ ∧ Rel b M0 zl_38 N_ := r37.oS (x := 3) (y := 14) rfl e32 (by decide +kernel) (by decide +kernel) (by decide +kernel) (by decide +kernel) (by decide +kernel) (by omega)
  have f5 : q_fR M38 8 M1.2.2.2.2.2.1 2 = some (some (b + 3)) := (z_fR (r38.isT (x := 1) e2 (by decide +kernel) (by decide +kernel))).trans (congrArg some (r38.rf (x := 1) e2 (by decide +kernel) (by decide +kernel)))
  have e39 : M38.2.2.2.2.2.1 = b + 16 := r38.nx (by decide +kernel)
  obtain ⟨M39, z39, r39⟩ : ∃ N_, q_new M38 5 4 = some N_ ∧ Rel b M0 zl_39 N_ := r38.oN rn rs (by decide +kernel) (by decide +kernel)
  obtain ⟨M40, z40, r40⟩ : ∃ N_, q_sR M39 5 M38.2.2.2.2.2.1 0 none = some N_ ∧ Rel b M0 zl_40 N_ := r39.oR (x := 16) e39 (by decide +kernel) (by decide +kernel) 0 none none rfl
  obtain ⟨M41, z41, r41⟩ : ∃ N_, q_sR M40 5 M38.2.2.2.2.2.1 1 none = some N_ ∧ Rel b M0 zl_41 N_ := r40.oR (x := 16) e39 (by decide +kernel) (by decide +kernel) 1 none none rfl
  have e42 : M41.2.2.2.2.2.1 = b + 17 := r41.nx (by decide +kernel)
  obtain ⟨M42, z42, r42⟩ : ∃ N_, q_newA M41 19 (nI 6) = some N_ ∧ Rel b M0 zl_42 N_ := r41.oA rn rs (by decide +kernel) (by decide +kernel)
  obtain ⟨M43, z43, r43⟩ : ∃ N_, q_sR M42 5 M38.2.2.2.2.2.1 2 (some M41.2.2.2.2.2.1) = some N_ ∧ Rel b M0 zl_43 N_ := r42.oR (x := 16) e39 (by decide +kernel) (by decide +kernel) 2 (some 17) (some M41.2.2.2.2.2.1) (congrArg some e42)
  obtain ⟨M44, z44, r44⟩ : ∃ N_, q_sI M43 5 M38.2.2.2.2.2.1 3 (nI 0) = some N_ ∧ Rel b M0 zl_44 N_ := r43.oI (x := 16) e39 (by decide +kernel) (by decide +kernel) 3 (nI 0)
  have c6 : q_CL 44 [.inr (.inr (some M38.2.2.2.2.2.1))] M39 = some (none, M44) := (C_X5_init M39 M38.2.2.2.2.2.1).trans (bs_ z40 (bs_ z41 (bs_ z42 (bs_ z43 (bs_ z44 (rfl))))))
  obtain ⟨M45, z45, r45⟩ : ∃ N_, q_bR M44 (b + 3) (nI 1) (some M38.2.2.2.2.2.1) = some N_ ∧ Rel b M0 zl_45 N_ := r44.oS (x := 3) (y := 16) rfl e39 (by decide +kernel) (by decide +kernel) (by decide +kernel) (by decide +kernel) (by decide +kernel) (by omega)
  have f7 : q_fR M45 8 M1.2.2.2.2.2.1 2 = some (some (b + 3)) := (z_fR (r45.isT (x := 1) e2 (by decide +kernel) (by decide +kernel))).trans (congrArg some (r45.rf (x := 1) e2 (by decide +kernel) (by decide +kernel)))
  have e46 : M45.2.2.2.2.2.1 = b + 18 := r45.nx (by decide +kernel)
  obtain ⟨M46, z46, r46⟩ : ∃ N_, q_new M45 5 4 = some N_ ∧ Rel b M0 zl_46 N_ := r45.oN rn rs (by decide +kernel) (by decide +kernel)
  obtain ⟨M47, z47, r47⟩ : ∃ N_, q_sR M46 5 M45.2.2.2.2.2.1 0 none = some N_ ∧ Rel b M0 zl_47 N_ := r46.oR (x := 18) e46 (by decide +kernel) (by decide +kernel) 0 none none rfl
  obtain ⟨M48, z48, r48⟩ : ∃ N_, q_sR M47 5 M45.2.2.2.2.2.1 1 none = some N_ ∧ Rel b M0 zl_48 N_ := r47.oR (x := 18) e46 (by decide +kernel) (by decide +kernel) 1 none none rfl
  have e49 : M48.2.2.2.2.2.1 = b + 19 := r48.nx (by decide +kernel)
  obtain ⟨M49, z49, r49⟩ : ∃ N_, q_newA M48 19 (nI 6) = some N_ ∧ Rel b M0 zl_49 N_ := r48.oA rn rs (by decide +kernel) (by decide +kernel)
  obtain ⟨M50, z50, r50⟩ : ∃ N_, q_sR M49 5 M45.2.2.2.2.2.1 2 (some M48.2.2.2.2.2.1) = some N_ ∧ Rel b M0 zl_50 N_ := r49.oR (x := 18) e46 (by decide +kernel) (by decide +kernel) 2 (some 19) (some M48.2.2.2.2.2.1) (congrArg some e49)
  obtain ⟨M51, z51, r51⟩ : ∃ N_, q_sI M50 5 M45.2.2.2.2.2.1 3 (nI 0) = some N_ ∧ Rel b M0 zl_51 N_ := r50.oI (x := 18) e46 (by decide +kernel) (by decide +kernel) 3 (nI 0)
  have c8 : q_CL 44 [.inr (.inr (some M45.2.2.2.2.2.1))] M46 = some (none, M51) := (C_X5_init M46 M45.2.2.2.2.2.1).trans (bs_ z47 (bs_ z48 (bs_ z49 (bs_ z50 (bs_ z51 (rfl))))))
  obtain ⟨M52, z52, r52⟩ : ∃ N_, q_bR M51 (b + 3) (nI 2) (some M45.2.2.2.2.2.1) = some N_ ∧ Rel b M0 zl_52 N_ := r51.oS (x := 3) (y := 18) rfl e46 (by decide +kernel) (by decide +kernel) (by decide +kernel) (by decide +kernel) (by decide +kernel) (by omega)
  have f9 : q_fR M52 8 M1.2.2.2.2.2.1 2 = some (some (b + 3)) := (z_fR (r52.isT (x := 1) e2 (by decide +kernel) (by decide +kernel))).trans (congrArg some (r52.rf (x := 1) e2 (by decide +kernel) (by decide +kernel)))
  have e53 : M52.2.2.2.2.2.1 = b + 20 := r52.nx (by decide +kernel)
  obtain ⟨M53, z53, r53⟩ : ∃ N_, q_new M52 5 4 = some N_ ∧ Rel b M0 zl_53 N_ := r52.oN rn rs (by decide +kernel) (by decide +kernel)
  obtain ⟨M54, z54, r54⟩ : ∃ N_, q_sR M53 5 M52.2.2.2.2.2.1 0 none = some N_ ∧ Rel b M0 zl_54 N_ := r53.oR (x := 20) e53 (by decide +kernel) (by decide +kernel) 0 none none rfl
  obtain ⟨M55, z55, r55⟩ : ∃ N_, q_sR M54 5 M52.2.2.2.2.2.1 1 none = some N_ ∧ Rel b M0 zl_55 N_ := r54.oR (x := 20) e53 (by decide +kernel) (by decide +kernel) 1 none none rfl
  have e56 : M55.2.2.2.2.2.1 = b + 21 := r55.nx (by decide +kernel)
  obtain ⟨M56, z56, r56⟩ : ∃ N_, q_newA M55 19 (nI 6) = some N_ ∧ Rel b M0 zl_56 N_ := r55.oA rn rs (by decide +kernel) (by decide +kernel)
  obtain ⟨M57, z57, r57⟩ : ∃ N_, q_sR M56 5 M52.2.2.2.2.2.1 2 (some M55.2.2.2.2.2.1) = some N_ ∧ Rel b M0 zl_57 N_ := r56.oR (x := 20) e53 (by decide +kernel) (by decide +kernel) 2 (some 21) (some M55.2.2.2.2.2.1) (congrArg some e56)
  obtain ⟨M58, z58, r58⟩ : ∃ N_, q_sI M57 5 M52.2.2.2.2.2.1 3 (nI 0) = some N_ ∧ Rel b M0 zl_58 N_ := r57.oI (x := 20) e53 (by decide +kernel) (by decide +kernel) 3 (nI 0)
  have c10 : q_CL 44 [.inr (.inr (some M52.2.2.2.2.2.1))] M53 = some (none, M58) := (C_X5_init M53 M52.2.2.2.2.2.1).trans (bs_ z54 (bs_ z55 (bs_ z56 (bs_ z57 (bs_ z58 (rfl))))))
  obtain ⟨M59, z59, r59⟩ : ∃ N_, q_bR M58 (b + 3) (nI 3) (some M52.2.2.2.2.2.1) = some N_ ∧ Rel b M0 zl_59 N_ := r58.oS (x := 3) (y := 20) rfl e53 (by decide +kernel) (by decide +kernel) (by decide +kernel) (by decide +kernel) (by decide +kernel) (by omega)
  have f11 : q_fR M59 8 M1.2.2.2.2.2.1 6 = some (some (b + 11)) := (z_fR (r59.isT (x := 1) e2 (by decide +kernel) (by decide +kernel))).trans (congrArg some (r59.rf (x := 1) e2 (by decide +kernel) (by decide +kernel)))
  have ln12 : q_len M59 (b + 11) = some (nI 8) := by unfold q_len; rw [r59.tg (x := 11) (t := 14) rfl (by decide +kernel) (by decide +kernel), if_pos (by omega), r59.ln (x := 11) (t := 8) rfl (by decide +kernel) (by decide +kernel)]; rfl
  obtain ⟨M60, z60, r60⟩ : ∃ N_, q_bI M59 14 (b + 11) (nI 0) (nI 3) = some N_ ∧ Rel b M0 zl_60 N_ := r59.oBI (x := 11) (n := 8) rfl (by decide +kernel) (by decide +kernel) (by decide +kernel) (by omega) (by omega)
  obtain ⟨M61, z61, r61⟩ : ∃ N_, q_bI M60 14 (b + 11) (nI 1) (nI 3) = some N_ ∧ Rel b M0 zl_61 N_ := r60.oBI (x := 11) (n := 8) rfl (by decide +kernel) (by decide +kernel) (by decide +kernel) (by omega) (by omega)
  obtain ⟨M62, z62, r62⟩ : ∃ N_, q_bI M61 14 (b + 11) (nI 2) (nI 3) = some N_ ∧ Rel b M0 zl_62 N_ := r61.oBI (x := 11) (n := 8) rfl (by decide +kernel) (by decide +kernel) (by decide +kernel) (by omega) (by omega)
  obtain ⟨M63, z63, r63⟩ : ∃ N_, q_bI M62 14 (b + 11) (nI 3) (nI 3) = some N_ ∧ Rel b M0 zl_63 N_ := r62.oBI (x := 11) (n := 8) rfl (by decide +kernel) (by decide +kernel) (by decide +kernel) (by omega) (by omega)
  obtain ⟨M64, z64, r64⟩ : ∃ N_, q_bI M63 14 (b + 11) (nI 4) (nI 3) = some N_ ∧ Rel b M0 zl_64 N_ := r63.oBI (x := 11) (n := 8) rfl (by decide +kernel) (by decide +kernel) (by decide +kernel) (by omega) (by omega)
  obtain ⟨M65, z65, r65⟩ : ∃ N_, q_bI M64 14 (b + 11) (nI 5) (nI 3) = some N_ ∧ Rel b M0 zl_65 N_ := r64.oBI (x := 11) (n := 8) rfl (by decide +kernel) (by decide +kernel) (by decide +kernel) (by omega) (by omega)
  obtain ⟨M66, z66, r66⟩ : ∃ N_, q_bI M65 14 (b + 11) (nI 6) (nI 3) = some N_ ∧ Rel b M0 zl_66 N_ := r65.oBI (x := 11) (n := 8) rfl (by decide +kernel) (by decide +kernel) (by decide +kernel) (by omega) (by omega)
  obtain ⟨M67, z67, r67⟩ : ∃ N_, q_bI M66 14 (b + 11) (nI 7) (nI 3) = some N_ ∧ Rel b M0 zl_67 N_ := r66.oBI (x := 11) (n := 8) rfl (by decide +kernel) (by decide +kernel) (by decide +kernel) (by omega) (by omega)
  have g8 : q_RL T_J7_fill_53178 (5, [some (.inr (.inr (some (b + 11)))), some (.inl (nI 3)), some (.inl (nI 8)), some (.inl (nI 8))], [], M67) = some (none, M67) := by rw [E_J7_fill_53178_5, if_pos (nI_le (Nat.le_refl _) (by omega))]
  have g7 : q_RL T_J7_fill_53178 (5, [some (.inr (.inr (some (b + 11)))), some (.inl (nI 3)), some (.inl (nI 7)), some (.inl (nI 8))], [], M66) = some (none, M67) := by rw [E_J7_fill_53178_5, if_neg (nI_ge (by omega) (by omega)), nI_1]; exact bs_ rfl (bs_ z67 (g8))
  have g6 : q_RL T_J7_fill_53178 (5, [some (.inr (.inr (some (b + 11)))), some (.inl (nI 3)), some (.inl (nI 6)), some (.inl (nI 8))], [], M65) = some (none, M67) := by rw [E_J7_fill_53178_5, if_neg (nI_ge (by omega) (by omega)), nI_1]; exact bs_ rfl (bs_ z66 (g7))
  have g5 : q_RL T_J7_fill_53178 (5, [some (.inr (.inr (some (b + 11)))), some (.inl (nI 3)), some (.inl (nI 5)), some (.inl (nI 8))], [], M64) = some (none, M67) := by rw [E_J7_fill_53178_5, if_neg (nI_ge (by omega) (by omega)), nI_1]; exact bs_ rfl (bs_ z65 (g6))
  have g4 : q_RL T_J7_fill_53178 (5, [some (.inr (.inr (some (b + 11)))), some (.inl (nI 3)), some (.inl (nI 4)), some (.inl (nI 8))], [], M63) = some (none, M67) := by rw [E_J7_fill_53178_5, if_neg (nI_ge (by omega) (by omega)), nI_1]; exact bs_ rfl (bs_ z64 (g5))
  have g3 : q_RL T_J7_fill_53178 (5, [some (.inr (.inr (some (b + 11)))), some (.inl (nI 3)), some (.inl (nI 3)), some (.inl (nI 8))], [], M62) = some (none, M67) := by rw [E_J7_fill_53178_5, if_neg (nI_ge (by omega) (by omega)), nI_1]; exact bs_ rfl (bs_ z63 (g4))
  have g2 : q_RL T_J7_fill_53178 (5, [some (.inr (.inr (some (b + 11)))), some (.inl (nI 3)), some (.inl (nI 2)), some (.inl (nI 8))], [], M61) = some (none, M67) := by rw [E_J7_fill_53178_5, if_neg (nI_ge (by omega) (by omega)), nI_1]; exact bs_ rfl (bs_ z62 (g3))
  have g1 : q_RL T_J7_fill_53178 (5, [some (.inr (.inr (some (b + 11)))), some (.inl (nI 3)), some (.inl (nI 1)), some (.inl (nI 8))], [], M60) = some (none, M67) := by rw [E_J7_fill_53178_5, if_neg (nI_ge (by omega) (by omega)), nI_1]; exact bs_ rfl (bs_ z61 (g2))
  have g0 : q_RL T_J7_fill_53178 (5, [some (.inr (.inr (some (b + 11)))), some (.inl (nI 3)), some (.inl (nI 0)), some (.inl (nI 8))], [], M59) = some (none, M67) := by rw [E_J7_fill_53178_5, if_neg (nI_ge (by omega) (by omega)), nI_1]; exact bs_ rfl (bs_ z60 (g1))
  have gf : q_CL 234 [.inr (.inr (some (b + 11))), .inl (nI 3)] M59 = some (none, M67) := (C_J7_fill_53178 M59 (some (b + 11)) (nI 3)).trans (bs_ rfl (bs_ ln12 (g0)))
  have h4 : q_RL T_X8_init (85, [some (.inr (.inr (some M1.2.2.2.2.2.1))), some (.inl (nI 4))], [], M59) = some (none, M67) := by rw [E_X8_init_85, if_pos (nI_le (Nat.le_refl _) (by omega))]; exact bs_ f11 (bs_ (congrArg q_rV gf) (rfl))
  have h3 : q_RL T_X8_init (85, [some (.inr (.inr (some M1.2.2.2.2.2.1))), some (.inl (nI 3))], [], M52) = some (none, M67) := by rw [E_X8_init_85, if_neg (nI_ge (by omega) (by omega)), nI_1]; exact bs_ f9 (bs_ z53 (bs_ (congrArg q_rV c10) (bs_ rfl (bs_ z59 (h4)))))
  have h2 : q_RL T_X8_init (85, [some (.inr (.inr (some M1.2.2.2.2.2.1))), some (.inl (nI 2))], [], M45) = some (none, M67) := by rw [E_X8_init_85, if_neg (nI_ge (by omega) (by omega)), nI_1]; exact bs_ f7 (bs_ z46 (bs_ (congrArg q_rV c8) (bs_ rfl (bs_ z52 (h3)))))
  have h1 : q_RL T_X8_init (85, [some (.inr (.inr (some M1.2.2.2.2.2.1))), some (.inl (nI 1))], [], M38) = some (none, M67) := by rw [E_X8_init_85, if_neg (nI_ge (by omega) (by omega)), nI_1]; exact bs_ f5 (bs_ z39 (bs_ (congrArg q_rV c6) (bs_ rfl (bs_ z45 (h2)))))
  have h0 : q_RL T_X8_init (85, [some (.inr (.inr (some M1.2.2.2.2.2.1))), some (.inl (nI 0))], [], M31) = some (none, M67) := by rw [E_X8_init_85, if_neg (nI_ge (by omega) (by omega)), nI_1]; exact bs_ f3 (bs_ z32 (bs_ (congrArg q_rV c4) (bs_ rfl (bs_ z38 (h1)))))
  have c13 : q_CL 58 [.inr (.inr (some M1.2.2.2.2.2.1))] M2 = some (none, M67) := (C_X8_init M2 M1.2.2.2.2.2.1).trans (bs_ z3 (bs_ z4 (bs_ z5 (bs_ z6 (bs_ z7 (bs_ z8 (bs_ z9 (bs_ z10 (bs_ (congrArg q_rV c1) (bs_ z17 (bs_ z18 (bs_ (congrArg q_rV c2) (bs_ z25 (bs_ z26 (bs_ z27 (bs_ z28 (bs_ z29 (bs_ z30 (bs_ z31 (h0))))))))))))))))))))
  obtain ⟨M68, z68, r68⟩ : ∃ N_, q_sR M67 11 b 0 (some M1.2.2.2.2.2.1) = some N_ ∧ Rel b M0 zl_68 N_ := r67.oR (x := 0) rfl (by decide +kernel) (by decide +kernel) 0 (some 1) (some M1.2.2.2.2.2.1) (congrArg some e2)
  have e69 : M68.2.2.2.2.2.1 = b + 22 := r68.nx (by decide +kernel)
  obtain ⟨M69, z69, r69⟩ : ∃ N_, q_newA M68 21 (nI 2) = some N_ ∧ Rel b M0 zl_69 N_ := r68.oA rn rs (by decide +kernel) (by decide +kernel)
  obtain ⟨M70, z70, r70⟩ : ∃ N_, q_sR M69 11 b 1 (some M68.2.2.2.2.2.1) = some N_ ∧ Rel b M0 zl_70 N_ := r69.oR (x := 0) rfl (by decide +kernel) (by decide +kernel) 1 (some 22) (some M68.2.2.2.2.2.1) (congrArg some e69)
  have e71 : M70.2.2.2.2.2.1 = b + 23 := r70.nx (by decide +kernel)
  obtain ⟨M71, z71, r71⟩ : ∃ N_, q_newA M70 13 (nI 2700) = some N_ ∧ Rel b M0 zl_71 N_ := r70.oA rn rs (by decide +kernel) (by decide +kernel)
  obtain ⟨M72, z72, r72⟩ : ∃ N_, q_sR M71 11 b 2 (some M70.2.2.2.2.2.1) = some N_ ∧ Rel b M0 zl_72 N_ := r71.oR (x := 0) rfl (by decide +kernel) (by decide +kernel) 2 (some 23) (some M70.2.2.2.2.2.1) (congrArg some e71)
  obtain ⟨M73, z73, r73⟩ : ∃ N_, q_sI M72 11 b 3 (nI 0) = some N_ ∧ Rel b M0 zl_73 N_ := r72.oI (x := 0) rfl (by decide +kernel) (by decide +kernel) 3 (nI 0)
  have e74 : M73.2.2.2.2.2.1 = b + 24 := r73.nx (by decide +kernel)
  obtain ⟨M74, z74, r74⟩ : ∃ N_, q_new M73 10 9 = some N_ ∧ Rel b M0 zl_74 N_ := r73.oN rn rs (by decide +kernel) (by decide +kernel)
  have e75 : M74.2.2.2.2.2.1 = b + 25 := r74.nx (by decide +kernel)
  obtain ⟨M75, z75, r75⟩ : ∃ N_, q_new2 M74 (nI 3) (nI 61) = some N_ ∧ Rel b M0 zl_75 N_ := r74.n2 rn rs (by decide +kernel) (by decide +kernel)
  obtain ⟨M76, z76, r76⟩ : ∃ N_, q_sR M75 10 M73.2.2.2.2.2.1 0 (some M74.2.2.2.2.2.1) = some N_ ∧ Rel b M0 zl_76 N_ := r75.oR (x := 24) e74 (by decide +kernel) (by decide +kernel) 0 (some 25) (some M74.2.2.2.2.2.1) (congrArg some e75)
  have e77 : M76.2.2.2.2.2.1 = b + 29 := r76.nx (by decide +kernel)
  obtain ⟨M77, z77, r77⟩ : ∃ N_, q_new2 M76 (nI 3) (nI 61) = some N_ ∧ Rel b M0 zl_77 N_ := r76.n2 rn rs (by decide +kernel) (by decide +kernel)
  obtain ⟨M78, z78, r78⟩ : ∃ N_, q_sR M77 10 M73.2.2.2.2.2.1 1 (some M76.2.2.2.2.2.1) = some N_ ∧ Rel b M0 zl_78 N_ := r77.oR (x := 24) e74 (by decide +kernel) (by decide +kernel) 1 (some 29) (some M76.2.2.2.2.2.1) (congrArg some e77)
  have e79 : M78.2.2.2.2.2.1 = b + 33 := r78.nx (by decide +kernel)
  obtain ⟨M79, z79, r79⟩ : ∃ N_, q_newA M78 14 (nI 61) = some N_ ∧ Rel b M0 zl_79 N_ := r78.oA rn rs (by decide +kernel) (by decide +kernel)
  obtain ⟨M80, z80, r80⟩ : ∃ N_, q_sR M79 10 M73.2.2.2.2.2.1 2 (some M78.2.2.2.2.2.1) = some N_ ∧ Rel b M0 zl_80 N_ := r79.oR (x := 24) e74 (by decide +kernel) (by decide +kernel) 2 (some 33) (some M78.2.2.2.2.2.1) (congrArg some e79)
  have e81 : M80.2.2.2.2.2.1 = b + 34 := r80.nx (by decide +kernel)
  obtain ⟨M81, z81, r81⟩ : ∃ N_, q_newA M80 15 (nI 61) = some N_ ∧ Rel b M0 zl_81 N_ := r80.oA rn rs (by decide +kernel) (by decide +kernel)
  obtain ⟨M82, z82, r82⟩ : ∃ N_, q_sR M81 10 M73.2.2.2.2.2.1 3 (some M80.2.2.2.2.2.1) = some N_ ∧ Rel b M0 zl_82 N_ := r81.oR (x := 24) e74 (by decide +kernel) (by decide +kernel) 3 (some 34) (some M80.2.2.2.2.2.1) (congrArg some e81)
  have e83 : M82.2.2.2.2.2.1 = b + 35 := r82.nx (by decide +kernel)
  obtain ⟨M83, z83, r83⟩ : ∃ N_, q_newA M82 14 (nI 61) = some N_ ∧ Rel b M0 zl_83 N_ := r82.oA rn rs (by decide +kernel) (by decide +kernel)
  obtain ⟨M84, z84, r84⟩ : ∃ N_, q_sR M83 10 M73.2.2.2.2.2.1 4 (some M82.2.2.2.2.2.1) = some N_ ∧ Rel b M0 zl_84 N_ := r83.oR (x := 24) e74 (by decide +kernel) (by decide +kernel) 4 (some 35) (some M82.2.2.2.2.2.1) (congrArg some e83)
  have e85 : M84.2.2.2.2.2.1 = b + 36 := r84.nx (by decide +kernel)
  obtain ⟨M85, z85, r85⟩ : ∃ N_, q_newA M84 14 (nI 3) = some N_ ∧ Rel b M0 zl_85 N_ := r84.oA rn rs (by decide +kernel) (by decide +kernel)
  obtain ⟨M86, z86, r86⟩ : ∃ N_, q_sR M85 10 M73.2.2.2.2.2.1 5 (some M84.2.2.2.2.2.1) = some N_ ∧ Rel b M0 zl_86 N_ := r85.oR (x := 24) e74 (by decide +kernel) (by decide +kernel) 5 (some 36) (some M84.2.2.2.2.2.1) (congrArg some e85)
  have e87 : M86.2.2.2.2.2.1 = b + 37 := r86.nx (by decide +kernel)
  obtain ⟨M87, z87, r87⟩ : ∃ N_, q_newA M86 14 (nI 3) = some N_ ∧ Rel b M0 zl_87 N_ := r86.oA rn rs (by decide +kernel) (by decide +kernel)
  obtain ⟨M88, z88, r88⟩ : ∃ N_, q_sR M87 10 M73.2.2.2.2.2.1 6 (some M86.2.2.2.2.2.1) = some N_ ∧ Rel b M0 zl_88 N_ := r87.oR (x := 24) e74 (by decide +kernel) (by decide +kernel) 6 (some 37) (some M86.2.2.2.2.2.1) (congrArg some e87)
  obtain ⟨M89, z89, r89⟩ : ∃ N_, q_sR M88 10 M73.2.2.2.2.2.1 7 none = some N_ ∧ Rel b M0 zl_89 N_ := r88.oR (x := 24) e74 (by decide +kernel) (by decide +kernel) 7 none none rfl
  obtain ⟨M90, z90, r90⟩ : ∃ N_, q_sI M89 10 M73.2.2.2.2.2.1 8 (nI 0) = some N_ ∧ Rel b M0 zl_90 N_ := r89.oI (x := 24) e74 (by decide +kernel) (by decide +kernel) 8 (nI 0)
  have c14 : q_CL 67 [.inr (.inr (some M73.2.2.2.2.2.1))] M74 = some (none, M90) := (C_X10_init M74 M73.2.2.2.2.2.1).trans (bs_ z75 (bs_ z76 (bs_ z77 (bs_ z78 (bs_ z79 (bs_ z80 (bs_ z81 (bs_ z82 (bs_ z83 (bs_ z84 (bs_ z85 (bs_ z86 (bs_ z87 (bs_ z88 (bs_ z89 (bs_ z90 (rfl)))))))))))))))))
  obtain ⟨M91, z91, r91⟩ : ∃ N_, q_sR M90 11 b 4 (some M73.2.2.2.2.2.1) = some N_ ∧ Rel b M0 zl_91 N_ := r90.oR (x := 0) rfl (by decide +kernel) (by decide +kernel) 4 (some 24) (some M73.2.2.2.2.2.1) (congrArg some e74)
  have e92 : M91.2.2.2.2.2.1 = b + 38 := r91.nx (by decide +kernel)
  obtain ⟨M92, z92, r92⟩ : ∃ N_, q_new M91 4 6 = some N_ ∧ Rel b M0 zl_92 N_ := r91.oN rn rs (by decide +kernel) (by decide +kernel)
  have e93 : M92.2.2.2.2.2.1 = b + 39 := r92.nx (by decide +kernel)
  obtain ⟨M93, z93, r93⟩ : ∃ N_, q_newA M92 15 (nI 300) = some N_ ∧ Rel b M0 zl_93 N_ := r92.oA rn rs (by decide +kernel) (by decide +kernel)
  obtain ⟨M94, z94, r94⟩ : ∃ N_, q_sR M93 4 M91.2.2.2.2.2.1 0 (some M92.2.2.2.2.2.1) = some N_ ∧ Rel b M0 zl_94 N_ := r93.oR (x := 38) e92 (by decide +kernel) (by decide +kernel) 0 (some 39) (some M92.2.2.2.2.2.1) (congrArg some e93)
  have e95 : M94.2.2.2.2.2.1 = b + 40 := r94.nx (by decide +kernel)
  obtain ⟨M95, z95, r95⟩ : ∃ N_, q_newA M94 16 (nI 300) = some N_ ∧ Rel b M0 zl_95 N_ := r94.oA rn rs (by decide +kernel) (by decide +kernel)
  obtain ⟨M96, z96, r96⟩ : ∃ N_, q_sR M95 4 M91.2.2.2.2.2.1 1 (some M94.2.2.2.2.2.1) = some N_ ∧ Rel b M0 zl_96 N_ := r95.oR (x := 38) e92 (by decide +kernel) (by decide +kernel) 1 (some 40) (some M94.2.2.2.2.2.1) (congrArg some e95)
  obtain ⟨M97, z97, r97⟩ : ∃ N_, q_sI M96 4 M91.2.2.2.2.2.1 2 (nI 0) = some N_ ∧ Rel b M0 zl_97 N_ := r96.oI (x := 38) e92 (by decide +kernel) (by decide +kernel) 2 (nI 0)
  obtain ⟨M98, z98, r98⟩ : ∃ N_, q_sI M97 4 M91.2.2.2.2.2.1 3 (nI 0) = some N_ ∧ Rel b M0 zl_98 N_ := r97.oI (x := 38) e92 (by decide +kernel) (by decide +kernel) 3 (nI 0)
  obtain ⟨M99, z99, r99⟩ : ∃ N_, q_sI M98 4 M91.2.2.2.2.2.1 4 (nI 0) = some N_ ∧ Rel b M0 zl_99 N_ := r98.oI (x := 38) e92 (by decide +kernel) (by decide +kernel) 4 (nI 0)
  obtain ⟨M100, z100, r100⟩ : ∃ N_, q_sI M99 4 M91.2.2.2.2.2.1 5 (nI 0) = some N_ ∧ Rel b M0 zl_100 N_ := r99.oI (x := 38) e92 (by decide +kernel) (by decide +kernel) 5 (nI 0)
  have c15 : q_CL 31 [.inr (.inr (some M91.2.2.2.2.2.1))] M92 = some (none, M100) := (C_X4_init M92 M91.2.2.2.2.2.1).trans (bs_ z93 (bs_ z94 (bs_ z95 (bs_ z96 (bs_ z97 (bs_ z98 (bs_ z99 (bs_ z100 (rfl)))))))))
  obtain ⟨M101, z101, r101⟩ : ∃ N_, q_sR M100 11 b 5 (some M91.2.2.2.2.2.1) = some N_ ∧ Rel b M0 zl_101 N_ := r100.oR (x := 0) rfl (by decide +kernel) (by decide +kernel) 5 (some 38) (some M91.2.2.2.2.2.1) (congrArg some e92)
  have e102 : M101.2.2.2.2.2.1 = b + 41 := r101.nx (by decide +kernel)
  obtain ⟨M102, z102, r102⟩ : ∃ N_, q_new M101 7 4 = some N_ ∧ Rel b M0 zl_102 N_ := r101.oN rn rs (by decide +kernel) (by decide +kernel)
  have e103 : M102.2.2.2.2.2.1 = b + 42 := r102.nx (by decide +kernel)
  obtain ⟨M103, z103, r103⟩ : ∃ N_, q_newA M102 15 (nI 200) = some N_ ∧ Rel b M0 zl_103 N_ := r102.oA rn rs (by decide +kernel) (by decide +kernel)
  obtain ⟨M104, z104, r104⟩ : ∃ N_, q_sR M103 7 M101.2.2.2.2.2.1 0 (some M102.2.2.2.2.2.1) = some N_ ∧ Rel b M0 zl_104 N_ := r103.oR (x := 41) e102 (by decide +kernel) (by decide +kernel) 0 (some 42) (some M102.2.2.2.2.2.1) (congrArg some e103)
  have e105 : M104.2.2.2.2.2.1 = b + 43 := r104.nx (by decide +kernel)
  obtain ⟨M105, z105, r105⟩ : ∃ N_, q_newA M104 15 (nI 200) = some N_ ∧ Rel b M0 zl_105 N_ := r104.oA rn rs (by decide +kernel) (by decide +kernel)
  obtain ⟨M106, z106, r106⟩ : ∃ N_, q_sR M105 7 M101.2.2.2.2.2.1 1 (some M104.2.2.2.2.2.1) = some N_ ∧ Rel b M0 zl_106 N_ := r105.oR (x := 41) e102 (by decide +kernel) (by decide +kernel) 1 (some 43) (some M104.2.2.2.2.2.1) (congrArg some e105)
  obtain ⟨M107, z107, r107⟩ : ∃ N_, q_sI M106 7 M101.2.2.2.2.2.1 2 (nI 0) = some N_ ∧ Rel b M0 zl_107 N_ := r106.oI (x := 41) e102 (by decide +kernel) (by decide +kernel) 2 (nI 0)
  obtain ⟨M108, z108, r108⟩ : ∃ N_, q_sL M107 7 M101.2.2.2.2.2.1 3 (lN 0) = some N_ ∧ Rel b M0 zl_108 N_ := r107.oL (x := 41) e102 (by decide +kernel) (by decide +kernel) 3 (lN 0)
  have c16 : q_CL 52 [.inr (.inr (some M101.2.2.2.2.2.1))] M102 = some (none, M108) := (C_X7_init M102 M101.2.2.2.2.2.1).trans (bs_ z103 (bs_ z104 (bs_ z105 (bs_ z106 (bs_ z107 (bs_ z108 (rfl)))))))
  obtain ⟨M109, z109, r109⟩ : ∃ N_, q_sR M108 11 b 6 (some M101.2.2.2.2.2.1) = some N_ ∧ Rel b M0 zl_109 N_ := r108.oR (x := 0) rfl (by decide +kernel) (by decide +kernel) 6 (some 41) (some M101.2.2.2.2.2.1) (congrArg some e102)
  have e110 : M109.2.2.2.2.2.1 = b + 44 := r109.nx (by decide +kernel)
  obtain ⟨M110, z110, r110⟩ : ∃ N_, q_new M109 1 4 = some N_ ∧ Rel b M0 zl_110 N_ := r109.oN rn rs (by decide +kernel) (by decide +kernel)
  obtain ⟨M111, z111, r111⟩ : ∃ N_, q_sI M110 1 M109.2.2.2.2.2.1 2 (nI 0) = some N_ ∧ Rel b M0 zl_111 N_ := r110.oI (x := 44) e110 (by decide +kernel) (by decide +kernel) 2 (nI 0)
  obtain ⟨M112, z112, r112⟩ : ∃ N_, q_sI M111 1 M109.2.2.2.2.2.1 3 (nI 0) = some N_ ∧ Rel b M0 zl_112 N_ := r111.oI (x := 44) e110 (by decide +kernel) (by decide +kernel) 3 (nI 0)
  have e113 : M112.2.2.2.2.2.1 = b + 45 := r112.nx (by decide +kernel)
  obtain ⟨M113, z113, r113⟩ : ∃ N_, q_newA M112 18 (nI 20) = some N_ ∧ Rel b M0 zl_113 N_ := r112.oA rn rs (by decide +kernel) (by decide +kernel)
  obtain ⟨M114, z114, r114⟩ : ∃ N_, q_sR M113 1 M109.2.2.2.2.2.1 0 (some M112.2.2.2.2.2.1) = some N_ ∧ Rel b M0 zl_114 N_ := r113.oR (x := 44) e110 (by decide +kernel) (by decide +kernel) 0 (some 45) (some M112.2.2.2.2.2.1) (congrArg some e113)
  have e115 : M114.2.2.2.2.2.1 = b + 46 := r114.nx (by decide +kernel)
  obtain ⟨M115, z115, r115⟩ : ∃ N_, q_newA M114 15 (nI 20) = some N_ ∧ Rel b M0 zl_115 N_ := r114.oA rn rs (by decide +kernel) (by decide +kernel)
  obtain ⟨M116, z116, r116⟩ : ∃ N_, q_sR M115 1 M109.2.2.2.2.2.1 1 (some M114.2.2.2.2.2.1) = some N_ ∧ Rel b M0 zl_116 N_ := r115.oR (x := 44) e110 (by decide +kernel) (by decide +kernel) 1 (some 46) (some M114.2.2.2.2.2.1) (congrArg some e115)
  have c17 : q_CL 7 [.inr (.inr (some M109.2.2.2.2.2.1)), .inl (nI 20)] M110 = some (none, M116) := (C_X1_init M110 M109.2.2.2.2.2.1 (nI 20)).trans (bs_ z111 (bs_ z112 (bs_ z113 (bs_ z114 (bs_ z115 (bs_ z116 (rfl)))))))
  obtain ⟨M117, z117, r117⟩ : ∃ N_, q_sR M116 11 b 7 (some M109.2.2.2.2.2.1) = some N_ ∧ Rel b M0 zl_117 N_ := r116.oR (x := 0) rfl (by decide +kernel) (by decide +kernel) 7 (some 44) (some M109.2.2.2.2.2.1) (congrArg some e110)
  have e118 : M117.2.2.2.2.2.1 = b + 47 := r117.nx (by decide +kernel)
  obtain ⟨M118, z118, r118⟩ : ∃ N_, q_newA M117 16 (nI 301) = some N_ ∧ Rel b M0 zl_118 N_ := r117.oA rn rs (by decide +kernel) (by decide +kernel)
  obtain ⟨M119, z119, r119⟩ : ∃ N_, q_sR M118 11 b 8 (some M117.2.2.2.2.2.1) = some N_ ∧ Rel b M0 zl_119 N_ := r118.oR (x := 0) rfl (by decide +kernel) (by decide +kernel) 8 (some 47) (some M117.2.2.2.2.2.1) (congrArg some e118)
  have c18 : q_CL 80 [.inr (.inr (some b))] M1 = some (none, M119) := (C_X11_init M1 b).trans (bs_ z2 (bs_ (congrArg q_rV c13) (bs_ z68 (bs_ z69 (bs_ z70 (bs_ z71 (bs_ z72 (bs_ z73 (bs_ z74 (bs_ (congrArg q_rV c14) (bs_ z91 (bs_ z92 (bs_ (congrArg q_rV c15) (bs_ z101 (bs_ z102 (bs_ (congrArg q_rV c16) (bs_ z109 (bs_ z110 (bs_ (congrArg q_rV c17) (bs_ z117 (bs_ z118 (bs_ z119 (rfl)))))))))))))))))))))))
  have e120 : M119.2.2.2.2.2.1 = b + 48 := r119.nx (by decide +kernel)
  obtain ⟨M120, z120, r120⟩ : ∃ N_, q_new M119 12 21 = some N_ ∧ Rel b M0 zl_120 N_ := r119.oN rn rs (by decide +kernel) (by decide +kernel)
  have e121 : M120.2.2.2.2.2.1 = b + 49 := r120.nx (by decide +kernel)
  obtain ⟨M121, z121, r121⟩ : ∃ N_, q_newA M120 15 (nI 60190) = some N_ ∧ Rel b M0 zl_121 N_ := r120.oA rn rs (by decide +kernel) (by decide +kernel)
  obtain ⟨M122, z122, r122⟩ : ∃ N_, q_sR M121 12 M119.2.2.2.2.2.1 0 (some M120.2.2.2.2.2.1) = some N_ ∧ Rel b M0 zl_122 N_ := r121.oR (x := 48) e120 (by decide +kernel) (by decide +kernel) 0 (some 49) (some M120.2.2.2.2.2.1) (congrArg some e121)
  have e123 : M122.2.2.2.2.2.1 = b + 50 := r122.nx (by decide +kernel)
  obtain ⟨M123, z123, r123⟩ : ∃ N_, q_newA M122 15 (nI 120380) = some N_ ∧ Rel b M0 zl_123 N_ := r122.oA rn rs (by decide +kernel) (by decide +kernel)
  obtain ⟨M124, z124, r124⟩ : ∃ N_, q_sR M123 12 M119.2.2.2.2.2.1 1 (some M122.2.2.2.2.2.1) = some N_ ∧ Rel b M0 zl_124 N_ := r123.oR (x := 48) e120 (by decide +kernel) (by decide +kernel) 1 (some 50) (some M122.2.2.2.2.2.1) (congrArg some e123)
  have e125 : M124.2.2.2.2.2.1 = b + 51 := r124.nx (by decide +kernel)
  obtain ⟨M125, z125, r125⟩ : ∃ N_, q_newA M124 16 (nI 2) = some N_ ∧ Rel b M0 zl_125 N_ := r124.oA rn rs (by decide +kernel) (by decide +kernel)
  obtain ⟨M126, z126, r126⟩ : ∃ N_, q_sR M125 12 M119.2.2.2.2.2.1 2 (some M124.2.2.2.2.2.1) = some N_ ∧ Rel b M0 zl_126 N_ := r125.oR (x := 48) e120 (by decide +kernel) (by decide +kernel) 2 (some 51) (some M124.2.2.2.2.2.1) (congrArg some e125)
  obtain ⟨M127, z127, r127⟩ : ∃ N_, q_sI M126 12 M119.2.2.2.2.2.1 3 (nI 2) = some N_ ∧ Rel b M0 zl_127 N_ := r126.oI (x := 48) e120 (by decide +kernel) (by decide +kernel) 3 (nI 2)
  obtain ⟨M128, z128, r128⟩ : ∃ N_, q_sI M127 12 M119.2.2.2.2.2.1 4 (nI 0) = some N_ ∧ Rel b M0 zl_128 N_ := r127.oI (x := 48) e120 (by decide +kernel) (by decide +kernel) 4 (nI 0)
  have e129 : M128.2.2.2.2.2.1 = b + 52 := r128.nx (by decide +kernel)
  obtain ⟨M129, z129, r129⟩ : ∃ N_, q_newA M128 14 (nI 60) = some N_ ∧ Rel b M0 zl_129 N_ := r128.oA rn rs (by decide +kernel) (by decide +kernel)
  obtain ⟨M130, z130, r130⟩ : ∃ N_, q_sR M129 12 M119.2.2.2.2.2.1 5 (some M128.2.2.2.2.2.1) = some N_ ∧ Rel b M0 zl_130 N_ := r129.oR (x := 48) e120 (by decide +kernel) (by decide +kernel) 5 (some 52) (some M128.2.2.2.2.2.1) (congrArg some e129)
  have e131 : M130.2.2.2.2.2.1 = b + 53 := r130.nx (by decide +kernel)
  obtain ⟨M131, z131, r131⟩ : ∃ N_, q_newA M130 14 (nI 60) = some N_ ∧ Rel b M0 zl_131 N_ := r130.oA rn rs (by decide +kernel) (by decide +kernel)
  obtain ⟨M132, z132, r132⟩ : ∃ N_, q_sR M131 12 M119.2.2.2.2.2.1 6 (some M130.2.2.2.2.2.1) = some N_ ∧ Rel b M0 zl_132 N_ := r131.oR (x := 48) e120 (by decide +kernel) (by decide +kernel) 6 (some 53) (some M130.2.2.2.2.2.1) (congrArg some e131)
  have e133 : M132.2.2.2.2.2.1 = b + 54 := r132.nx (by decide +kernel)
  obtain ⟨M133, z133, r133⟩ : ∃ N_, q_newA M132 14 (nI 3) = some N_ ∧ Rel b M0 zl_133 N_ := r132.oA rn rs (by decide +kernel) (by decide +kernel)
  obtain ⟨M134, z134, r134⟩ : ∃ N_, q_sR M133 12 M119.2.2.2.2.2.1 7 (some M132.2.2.2.2.2.1) = some N_ ∧ Rel b M0 zl_134 N_ := r133.oR (x := 48) e120 (by decide +kernel) (by decide +kernel) 7 (some 54) (some M132.2.2.2.2.2.1) (congrArg some e133)
  have e135 : M134.2.2.2.2.2.1 = b + 55 := r134.nx (by decide +kernel)
  obtain ⟨M135, z135, r135⟩ : ∃ N_, q_newA M134 14 (nI 3) = some N_ ∧ Rel b M0 zl_135 N_ := r134.oA rn rs (by decide +kernel) (by decide +kernel)
  obtain ⟨M136, z136, r136⟩ : ∃ N_, q_sR M135 12 M119.2.2.2.2.2.1 8 (some M134.2.2.2.2.2.1) = some N_ ∧ Rel b M0 zl_136 N_ := r135.oR (x := 48) e120 (by decide +kernel) (by decide +kernel) 8 (some 55) (some M134.2.2.2.2.2.1) (congrArg some e135)
  have e137 : M136.2.2.2.2.2.1 = b + 56 := r136.nx (by decide +kernel)
  obtain ⟨M137, z137, r137⟩ : ∃ N_, q_newA M136 14 (nI 3) = some N_ ∧ Rel b M0 zl_137 N_ := r136.oA rn rs (by decide +kernel) (by decide +kernel)
  obtain ⟨M138, z138, r138⟩ : ∃ N_, q_sR M137 12 M119.2.2.2.2.2.1 9 (some M136.2.2.2.2.2.1) = some N_ ∧ Rel b M0 zl_138 N_ := r137.oR (x := 48) e120 (by decide +kernel) (by decide +kernel) 9 (some 56) (some M136.2.2.2.2.2.1) (congrArg some e137)
  obtain ⟨M139, z139, r139⟩ : ∃ N_, q_sI M138 12 M119.2.2.2.2.2.1 10 (nI 0) = some N_ ∧ Rel b M0 zl_139 N_ := r138.oI (x := 48) e120 (by decide +kernel) (by decide +kernel) 10 (nI 0)
  obtain ⟨M140, z140, r140⟩ : ∃ N_, q_sI M139 12 M119.2.2.2.2.2.1 11 (nI 0) = some N_ ∧ Rel b M0 zl_140 N_ := r139.oI (x := 48) e120 (by decide +kernel) (by decide +kernel) 11 (nI 0)
  have e141 : M140.2.2.2.2.2.1 = b + 57 := r140.nx (by decide +kernel)
  obtain ⟨M141, z141, r141⟩ : ∃ N_, q_newA M140 15 (nI 402) = some N_ ∧ Rel b M0 zl_141 N_ := r140.oA rn rs (by decide +kernel) (by decide +kernel)
  obtain ⟨M142, z142, r142⟩ : ∃ N_, q_sR M141 12 M119.2.2.2.2.2.1 12 (some M140.2.2.2.2.2.1) = some N_ ∧ Rel b M0 zl_142 N_ := r141.oR (x := 48) e120 (by decide +kernel) (by decide +kernel) 12 (some 57) (some M140.2.2.2.2.2.1) (congrArg some e141)
  obtain ⟨M143, z143, r143⟩ : ∃ N_, q_sI M142 12 M119.2.2.2.2.2.1 13 (nI 0) = some N_ ∧ Rel b M0 zl_143 N_ := r142.oI (x := 48) e120 (by decide +kernel) (by decide +kernel) 13 (nI 0)
  have e144 : M143.2.2.2.2.2.1 = b + 58 := r143.nx (by decide +kernel)
  obtain ⟨M144, z144, r144⟩ : ∃ N_, q_newA M143 14 (nI 3) = some N_ ∧ Rel b M0 zl_144 N_ := r143.oA rn rs (by decide +kernel) (by decide +kernel)
  obtain ⟨M145, z145, r145⟩ : ∃ N_, q_sR M144 12 M119.2.2.2.2.2.1 14 (some M143.2.2.2.2.2.1) = some N_ ∧ Rel b M0 zl_145 N_ := r144.oR (x := 48) e120 (by decide +kernel) (by decide +kernel) 14 (some 58) (some M143.2.2.2.2.2.1) (congrArg some e144)
  have e146 : M145.2.2.2.2.2.1 = b + 59 := r145.nx (by decide +kernel)
  obtain ⟨M146, z146, r146⟩ : ∃ N_, q_newA M145 16 (nI 300) = some N_ ∧ Rel b M0 zl_146 N_ := r145.oA rn rs (by decide +kernel) (by decide +kernel)
  obtain ⟨M147, z147, r147⟩ : ∃ N_, q_sR M146 12 M119.2.2.2.2.2.1 15 (some M145.2.2.2.2.2.1) = some N_ ∧ Rel b M0 zl_147 N_ := r146.oR (x := 48) e120 (by decide +kernel) (by decide +kernel) 15 (some 59) (some M145.2.2.2.2.2.1) (congrArg some e146)
  have e148 : M147.2.2.2.2.2.1 = b + 60 := r147.nx (by decide +kernel)
  obtain ⟨M148, z148, r148⟩ : ∃ N_, q_newA M147 16 (nI 300) = some N_ ∧ Rel b M0 zl_148 N_ := r147.oA rn rs (by decide +kernel) (by decide +kernel)
  obtain ⟨M149, z149, r149⟩ : ∃ N_, q_sR M148 12 M119.2.2.2.2.2.1 16 (some M147.2.2.2.2.2.1) = some N_ ∧ Rel b M0 zl_149 N_ := r148.oR (x := 48) e120 (by decide +kernel) (by decide +kernel) 16 (some 60) (some M147.2.2.2.2.2.1) (congrArg some e148)
  obtain ⟨M150, z150, r150⟩ : ∃ N_, q_sL M149 12 M119.2.2.2.2.2.1 17 (lN 0) = some N_ ∧ Rel b M0 zl_150 N_ := r149.oL (x := 48) e120 (by decide +kernel) (by decide +kernel) 17 (lN 0)
  obtain ⟨M151, z151, r151⟩ : ∃ N_, q_sL M150 12 M119.2.2.2.2.2.1 18 (lN 0) = some N_ ∧ Rel b M0 zl_151 N_ := r150.oL (x := 48) e120 (by decide +kernel) (by decide +kernel) 18 (lN 0)
  have e152 : M151.2.2.2.2.2.1 = b + 61 := r151.nx (by decide +kernel)
  obtain ⟨M152, z152, r152⟩ : ∃ N_, q_newA M151 13 (nI 2700) = some N_ ∧ Rel b M0 zl_152 N_ := r151.oA rn rs (by decide +kernel) (by decide +kernel)
  obtain ⟨M153, z153, r153⟩ : ∃ N_, q_sR M152 12 M119.2.2.2.2.2.1 19 (some M151.2.2.2.2.2.1) = some N_ ∧ Rel b M0 zl_153 N_ := r152.oR (x := 48) e120 (by decide +kernel) (by decide +kernel) 19 (some 61) (some M151.2.2.2.2.2.1) (congrArg some e152)
  obtain ⟨M154, z154, r154⟩ : ∃ N_, q_sI M153 12 M119.2.2.2.2.2.1 20 (nI 0) = some N_ ∧ Rel b M0 zl_154 N_ := r153.oI (x := 48) e120 (by decide +kernel) (by decide +kernel) 20 (nI 0)
  have c19 : q_CL 140 [.inr (.inr (some M119.2.2.2.2.2.1))] M120 = some (none, M154) := (C_X12_init M120 M119.2.2.2.2.2.1).trans (bs_ z121 (bs_ z122 (bs_ z123 (bs_ z124 (bs_ z125 (bs_ z126 (bs_ z127 (bs_ z128 (bs_ z129 (bs_ z130 (bs_ z131 (bs_ z132 (bs_ z133 (bs_ z134 (bs_ z135 (bs_ z136 (bs_ z137 (bs_ z138 (bs_ z139 (bs_ z140 (bs_ z141 (bs_ z142 (bs_ z143 (bs_ z144 (bs_ z145 (bs_ z146 (bs_ z147 (bs_ z148 (bs_ z149 (bs_ z150 (bs_ z151 (bs_ z152 (bs_ z153 (bs_ z154 (rfl)))))))))))))))))))))))))))))))))))
  exact ⟨M1, M119, M120, M154, z1, c18, z120, e120, c19, r154⟩
