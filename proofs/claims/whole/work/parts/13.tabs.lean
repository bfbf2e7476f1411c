/-! ===== TABLES OF METHODS AND CALLS ===== -/
def q_ct : List q_E := [(3, 0, 0, 1, 12, []),
  (0, 1, 3, 0, 16, [(0, 5)]),
  (0, 1, 3, 1, 41, [(0, 6)]),
  (5, 2, 1, 1, 16, []),
  (6, 2, 1, 1, 16, []),
  (1, 3, 1, 0, 16, [(1, 13)]),
  (1, 1, 1, 0, 13, [(2, 16)]),
  (1, 1, 1, 0, 15, [(3, 22)]),
  (1, 1, 0, 0, 14, [(3, 28)]),
  (1, 1, 0, 0, 14, [(3, 30)]),
  (1, 1, 0, 1, 35, [(3, 29)]),
  (1, 1, 1, 0, 13, [(2, 15)]),
  (0, 5, 2, 2, 67, [(0, 42)]),
  (0, 4, 2, 1, 42, [(0, 43)]),
  (1, 1, 0, 3, 97, [(4, 33)]),
  (1, 0, 0, 0, 12, [(1, 8)]),
  (1, 1, 1, 0, 15, [(4, 39)]),
  (1, 4, 0, 3, 89, [(4, 36)]),
  (1, 1, 1, 0, 15, [(3, 23)]),
  (1, 1, 2, 2, 63, [(4, 40)]),
  (1, 3, 0, 1, 43, [(1, 10)]),
  (7, 1, 1, 1, 16, []),
  (0, 3, 2, 2, 64, [(0, 41)]),
  (0, 4, 1, 0, 15, [(0, 38)]),
  (1, 2, 0, 0, 15, [(1, 9)]),
  (1, 3, 1, 1, 41, [(3, 25)]),
  (1, 3, 1, 1, 41, [(3, 26)]),
  (8, 2, 2, 1, 16, []),
  (2, 0, 0, 1, 32, [(0, 17)]),
  (2, 5, 0, 2, 70, [(0, 0)]),
  (0, 1, 1, 0, 12, [(0, 232)]),
  (4, 5, 0, 1, 40, []),
  (2, 0, 0, 1, 32, [(0, 52)]),
  (2, 1, 0, 1, 33, [(0, 7)]),
  (2, 0, 0, 1, 32, [(0, 44)]),
  (0, 2, 0, 0, 15, [(0, 234)]),
  (1, 1, 0, 0, 14, [(5, 48)]),
  (1, 1, 0, 1, 61, [(7, 57)]),
  (1, 1, 0, 1, 38, [(1, 12)]),
  (1, 2, 1, 0, 15, [(9, 66)]),
  (1, 1, 0, 0, 14, [(10, 68)]),
  (1, 2, 1, 1, 37, [(0, 1), (6, 1), (9, 63)]),
  (1, 3, 1, 1, 40, [(0, 2), (6, 50), (9, 64)]),
  (1, 2, 0, 2, 65, [(10, 78)]),
  (1, 2, 1, 0, 18, [(10, 79)]),
  (1, 2, 2, 4, 113, [(10, 76)]),
  (1, 2, 2, 3, 89, [(10, 77)]),
  (1, 3, 1, 0, 24, [(0, 3), (6, 51), (9, 65)]),
  (2, 0, 0, 2, 54, [(0, 58)]),
  (2, 0, 0, 1, 32, [(0, 67)]),
  (2, 0, 0, 1, 32, [(0, 31)]),
  (0, 5, 1, 0, 17, [(0, 86)]),
  (2, 3, 0, 3, 93, [(0, 62)]),
  (2, 3, 0, 3, 93, [(0, 49)]),
  (1, 1, 3, 0, 13, [(11, 87)]),
  (1, 3, 1, 0, 15, [(0, 4), (6, 4), (9, 4)]),
  (1, 4, 2, 3, 93, [(10, 73)]),
  (1, 2, 2, 5, 139, [(10, 74)]),
  (1, 1, 1, 0, 13, [(10, 72)]),
  (1, 1, 2, 5, 134, [(10, 75)]),
  (1, 1, 0, 2, 53, [(5, 45)]),
  (1, 1, 3, 0, 13, [(11, 98)]),
  (1, 1, 1, 0, 14, [(3, 21)]),
  (2, 2, 0, 1, 35, [(0, 18)]),
  (2, 6, 0, 1, 39, [(0, 14)]),
  (1, 1, 1, 1, 38, [(3, 19)]),
  (1, 1, 0, 0, 14, [(5, 46)]),
  (1, 1, 0, 2, 58, [(3, 20)]),
  (1, 1, 0, 0, 14, [(3, 27)]),
  (0, 1, 1, 0, 12, [(0, 99)]),
  (0, 2, 1, 0, 13, [(0, 100)]),
  (1, 0, 1, 0, 13, [(11, 101)]),
  (1, 2, 1, 0, 16, [(3, 24)]),
  (1, 0, 1, 0, 12, [(5, 47)]),
  (1, 4, 0, 0, 16, [(8, 59)]),
  (1, 1, 1, 1, 38, [(11, 109)]),
  (1, 1, 1, 6, 165, [(11, 110)]),
  (1, 1, 0, 0, 15, [(7, 56)]),
  (1, 0, 2, 0, 15, [(7, 55)]),
  (1, 3, 0, 0, 15, [(10, 69)]),
  (1, 0, 2, 0, 15, [(10, 70)]),
  (1, 1, 0, 0, 14, [(7, 53)]),
  (1, 2, 0, 0, 16, [(7, 54)]),
  (1, 3, 0, 2, 61, [(11, 117)]),
  (1, 5, 3, 1, 42, [(11, 119)]),
  (1, 3, 0, 4, 122, [(4, 34)]),
  (1, 3, 0, 4, 126, [(4, 35)]),
  (0, 1, 1, 0, 12, [(0, 118)]),
  (1, 3, 0, 3, 101, [(4, 37)]),
  (1, 0, 1, 0, 14, [(1, 11)]),
  (1, 1, 1, 1, 36, [(10, 71)]),
  (1, 4, 0, 0, 16, [(4, 32)]),
  (0, 4, 1, 0, 15, [(0, 122)]),
  (1, 4, 2, 6, 172, [(11, 123)]),
  (0, 2, 2, 0, 22, [(0, 125)]),
  (0, 2, 1, 0, 15, [(0, 233)]),
  (0, 4, 1, 1, 41, [(0, 124)]),
  (1, 1, 1, 1, 39, [(11, 130)]),
  (1, 2, 1, 4, 113, [(11, 132)]),
  (1, 1, 2, 0, 16, [(11, 131)]),
  (1, 3, 1, 1, 43, [(11, 135)]),
  (1, 3, 1, 1, 42, [(11, 136)]),
  (1, 2, 1, 1, 40, [(11, 137)]),
  (1, 4, 1, 0, 18, [(8, 60)]),
  (1, 1, 0, 2, 83, [(8, 61)]),
  (1, 2, 1, 0, 14, [(12, 142)]),
  (1, 1, 1, 1, 35, [(12, 144)]),
  (1, 1, 1, 1, 35, [(12, 143)]),
  (1, 2, 1, 1, 36, [(12, 145)]),
  (1, 2, 1, 2, 60, [(12, 146)]),
  (1, 1, 1, 0, 13, [(12, 141)]),
  (0, 3, 1, 0, 16, [(0, 152)]),
  (1, 3, 0, 0, 16, [(12, 155)]),
  (1, 2, 0, 1, 41, [(12, 153)]),
  (1, 1, 0, 2, 60, [(12, 149)]),
  (1, 2, 0, 3, 88, [(12, 154)]),
  (1, 0, 2, 0, 15, [(12, 151)]),
  (1, 4, 1, 3, 84, [(12, 156)]),
  (1, 4, 2, 4, 113, [(12, 157)]),
  (1, 1, 0, 0, 17, [(12, 150)]),
  (1, 1, 2, 1, 34, [(12, 148)]),
  (1, 2, 0, 4, 111, [(12, 159)]),
  (0, 2, 1, 0, 13, [(0, 162)]),
  (1, 1, 1, 0, 16, [(12, 166)]),
  (1, 3, 2, 4, 112, [(12, 168)]),
  (1, 1, 1, 3, 83, [(12, 165)]),
  (1, 3, 2, 5, 137, [(12, 167)]),
  (1, 1, 2, 0, 13, [(12, 172)]),
  (1, 1, 1, 0, 13, [(12, 175)]),
  (1, 2, 0, 0, 16, [(12, 182)]),
  (1, 0, 1, 0, 12, [(12, 176)]),
  (1, 2, 2, 0, 14, [(12, 179)]),
  (1, 1, 1, 1, 36, [(12, 184)]),
  (1, 1, 1, 0, 13, [(12, 180)]),
  (1, 0, 1, 0, 12, [(12, 177)]),
  (1, 0, 1, 0, 12, [(12, 178)]),
  (1, 1, 1, 1, 36, [(12, 186)]),
  (1, 2, 0, 1, 35, [(12, 188)]),
  (1, 1, 0, 1, 34, [(12, 189)]),
  (1, 5, 1, 5, 144, [(12, 190)]),
  (1, 1, 0, 2, 60, [(12, 191)]),
  (1, 2, 1, 1, 38, [(12, 197)]),
  (1, 1, 1, 1, 36, [(12, 187)]),
  (1, 1, 0, 2, 61, [(12, 199)]),
  (1, 0, 0, 0, 12, [(12, 202)]),
  (1, 2, 0, 1, 38, [(12, 201)]),
  (0, 4, 2, 0, 20, [(0, 204)]),
  (0, 3, 1, 0, 14, [(0, 207)]),
  (1, 2, 2, 1, 42, [(12, 206)]),
  (1, 0, 0, 0, 13, [(12, 210)]),
  (1, 2, 1, 2, 66, [(12, 209)]),
  (1, 2, 2, 3, 83, [(12, 208)]),
  (1, 3, 2, 3, 91, [(12, 211)]),
  (1, 6, 1, 4, 110, [(12, 213)]),
  (1, 3, 0, 0, 15, [(12, 205)]),
  (1, 2, 1, 4, 117, [(12, 212)]),
  (0, 4, 2, 0, 17, [(0, 219)]),
  (1, 4, 1, 5, 143, [(12, 220)]),
  (0, 2, 2, 0, 21, [(0, 221)]),
  (2, 0, 0, 3, 74, [(0, 80)]),
  (2, 0, 0, 1, 32, [(0, 140)]),
  (1, 5, 1, 4, 122, [(11, 81)]),
  (1, 5, 1, 3, 90, [(12, 147)]),
  (1, 4, 2, 4, 118, [(11, 82)]),
  (1, 4, 2, 5, 137, [(12, 158)]),
  (1, 3, 1, 6, 164, [(11, 83)]),
  (1, 3, 1, 5, 135, [(12, 160)]),
  (1, 1, 2, 1, 35, [(11, 84)]),
  (1, 3, 1, 6, 170, [(11, 85)]),
  (1, 3, 1, 5, 141, [(12, 161)]),
  (1, 2, 1, 3, 76, [(11, 88)]),
  (1, 2, 1, 1, 35, [(12, 181)]),
  (1, 6, 1, 4, 122, [(11, 89)]),
  (1, 6, 1, 6, 170, [(12, 192)]),
  (1, 2, 1, 3, 83, [(11, 90)]),
  (1, 2, 1, 3, 82, [(12, 193)]),
  (1, 5, 1, 4, 123, [(11, 91)]),
  (1, 5, 1, 6, 171, [(12, 194)]),
  (1, 3, 1, 4, 125, [(11, 92)]),
  (1, 3, 1, 6, 174, [(12, 195)]),
  (1, 2, 1, 1, 37, [(11, 93)]),
  (1, 2, 1, 2, 58, [(12, 185)]),
  (1, 3, 1, 1, 40, [(11, 94)]),
  (1, 3, 1, 2, 59, [(12, 196)]),
  (1, 2, 1, 1, 39, [(11, 95)]),
  (1, 2, 1, 2, 60, [(12, 198)]),
  (1, 3, 1, 2, 67, [(11, 96)]),
  (1, 3, 1, 3, 84, [(12, 200)]),
  (1, 1, 1, 1, 35, [(11, 97)]),
  (1, 1, 1, 1, 37, [(12, 183)]),
  (1, 3, 0, 1, 39, [(11, 102)]),
  (1, 3, 0, 0, 15, [(12, 163)]),
  (1, 3, 0, 1, 39, [(11, 103)]),
  (1, 3, 0, 0, 15, [(12, 164)]),
  (1, 1, 1, 7, 187, [(11, 104)]),
  (1, 1, 1, 6, 164, [(12, 169)]),
  (1, 2, 2, 0, 14, [(11, 105)]),
  (1, 2, 2, 0, 14, [(12, 170)]),
  (1, 1, 1, 1, 36, [(11, 106)]),
  (1, 1, 1, 1, 36, [(12, 171)]),
  (1, 0, 2, 1, 35, [(11, 107)]),
  (1, 0, 2, 0, 15, [(12, 173)]),
  (1, 2, 2, 6, 163, [(11, 108)]),
  (1, 2, 2, 6, 160, [(12, 174)]),
  (1, 1, 1, 6, 166, [(11, 111)]),
  (1, 1, 1, 6, 166, [(12, 203)]),
  (1, 6, 1, 5, 149, [(11, 112)]),
  (1, 6, 1, 5, 145, [(12, 214)]),
  (1, 6, 1, 5, 153, [(11, 113)]),
  (1, 6, 1, 5, 137, [(12, 215)]),
  (1, 2, 1, 4, 124, [(11, 114)]),
  (1, 2, 1, 2, 73, [(12, 216)]),
  (1, 2, 2, 0, 14, [(11, 115)]),
  (1, 2, 2, 0, 14, [(12, 217)]),
  (1, 1, 1, 1, 35, [(11, 116)]),
  (1, 1, 1, 0, 13, [(12, 218)]),
  (1, 5, 2, 7, 204, [(11, 120)]),
  (1, 5, 2, 6, 170, [(12, 222)]),
  (1, 5, 1, 7, 199, [(11, 121)]),
  (1, 5, 1, 6, 170, [(12, 223)]),
  (1, 6, 1, 5, 151, [(11, 126)]),
  (1, 6, 1, 5, 147, [(12, 224)]),
  (1, 1, 1, 0, 13, [(11, 127)]),
  (1, 1, 1, 0, 13, [(12, 225)]),
  (1, 2, 1, 0, 15, [(11, 128)]),
  (1, 2, 1, 0, 15, [(12, 226)]),
  (1, 6, 1, 5, 141, [(11, 129)]),
  (1, 6, 1, 5, 140, [(12, 227)]),
  (1, 4, 1, 2, 67, [(11, 133)]),
  (1, 4, 1, 2, 64, [(12, 228)]),
  (1, 2, 2, 0, 15, [(11, 134)]),
  (1, 2, 2, 2, 57, [(12, 229)]),
  (1, 1, 1, 3, 104, [(11, 138)]),
  (1, 1, 1, 0, 14, [(12, 230)]),
  (1, 1, 1, 3, 104, [(11, 139)]),
  (1, 1, 1, 0, 14, [(12, 231)])]
def q_sw : List (Nat × Nat × List Nat) := [(0, 120, [80, 86, 92, 98, 104, 110]),
  (0, 93, [48, 56, 64, 80, 88]),
  (0, 155, [104, 107, 120, 120, 120, 136, 136, 136, 152]),
  (0, 61, [28, 39, 50]),
  (0, 94, [44, 57, 70, 82]),
  (0, 80, [44, 49, 54, 64, 69]),
  (0, 1878, [200, 263, 317, 390, 414, 487, 520, 595, 628, 691, 734, 767, 810, 843, 886, 909, 950, 991, 1014, 1048, 1071, 1085, 1149, 1172, 1247, 1322, 1355, 1389, 1412, 1476, 1539, 1614, 1637, 1670, 1745, 1798, 1832, 1855])]
def q_nf (t : Nat) : Nat := match t with
  | 0 => 6
  | 1 => 4
  | 2 => 6
  | 3 => 4
  | 4 => 6
  | 5 => 4
  | 6 => 6
  | 7 => 4
  | 8 => 9
  | 9 => 6
  | 10 => 9
  | 11 => 9
  | _ => 21
noncomputable def q_mt : List q_T := [T_X0_init, T_X0_axisOf, T_X0_turned, T_X0_stateAfter, T_X0_holds, T_X0_axisByAxis, T_X0_woven, T_X1_init, T_X1_begin, T_X1_append, T_X1_offer, T_X1_weights, T_X1_copyFrom, T_X1_isBefore, T_X2_init, T_X2_on, T_X2_isAheadOf, T_X3_init, T_X3_init_, T_X3_come, T_X3_go, T_X3_indexOf, T_X3_pageOf, T_X3_startOf, T_X3_weightsOf, T_X3_leastOf, T_X3_greatestOf, T_X3_markNames, T_X3_part, T_X3_melt, T_X3_removePage, T_X4_init, T_X4_aim, T_X4_measure, T_X4_readNearest, T_X4_readWithin, T_X4_readPage, T_X4_readClosest, T_X4_comesFirst, T_X4_nextUnread, T_X4_farOf, T_X4_between, T_X4_boxGap, T_X4_distance, T_X5_init, T_X5_begin, T_X5_act, T_X5_takeBack, T_X5_copyFrom, T_X6_init, T_X6_turned, T_X6_stateAfter, T_X7_init, T_X7_begin, T_X7_append, T_X7_numbers, T_X7_meltTo, T_X7_copyFrom, T_X8_init, T_X8_setCorner, T_X8_layOnRack, T_X8_copyFrom, T_X9_init, T_X9_axisOf, T_X9_turned, T_X9_stateAfter, T_X9_bitBeforeTurn, T_X10_init, T_X10_enter, T_X10_narrow, T_X10_windowPlaces, T_X10_isInWindow, T_X10_leaf, T_X10_numberOf, T_X10_seek, T_X10_onward, T_X10_climb, T_X10_descend, T_X10_step, T_X10_meets, T_X11_init, T_X11_curve, T_X11_number, T_X11_place, T_X11_size, T_X11_gap, T_X11_canBeCurve, T_X11_curveAt, T_X11_shelf, T_X11_put, T_X11_drop, T_X11_move, T_X11_sow, T_X11_find, T_X11_at, T_X11_count, T_X11_page, T_X11_undo, T_X11_shelfAt, T_X11_drawAfter, T_X11_drawn, T_X11_takeFreeName, T_X11_low, T_X11_high, T_X11_spans, T_X11_span, T_X11_few, T_X11_beyond, T_X11_jump, T_X11_enterWindow, T_X11_gatherSpans, T_X11_points, T_X11_nearest, T_X11_within, T_X11_pairs, T_X11_found, T_X11_spent, T_X11_appendInWindow, T_X11_isWay, T_X11_aimAt, T_X11_mean, T_X11_compare, T_X11_hasMean, T_X11_spansTogether, T_X11_windowsWithBoth, T_X11_greatestDivisor, T_X11_witness, T_X11_out, T_X11_forge, T_X11_check, T_X11_firstFalsePage, T_X11_tellsFar, T_X11_firstMissedPage, T_X11_lay, T_X11_ask, T_X11_layPoint, T_X11_layPage, T_X11_layCurve, T_X11_image, T_X11_back, T_X12_init, T_X12_isCurve, T_X12_of, T_X12_kind, T_X12_axes, T_X12_has, T_X12_can, T_X12_curve, T_X12_size, T_X12_lays, T_X12_splits, T_X12_joined, T_X12_turnedLeft, T_X12_turns, T_X12_box, T_X12_narrows, T_X12_isPlace, T_X12_numberOf, T_X12_number, T_X12_placed, T_X12_place, T_X12_gap, T_X12_off, T_X12_low, T_X12_high, T_X12_isWindow, T_X12_isAsked, T_X12_next, T_X12_lowest, T_X12_spans, T_X12_span, T_X12_few, T_X12_between, T_X12_beyond, T_X12_jump, T_X12_opens, T_X12_held, T_X12_pages, T_X12_curveOf, T_X12_point, T_X12_onPage, T_X12_shelf, T_X12_keeps, T_X12_undo, T_X12_named, T_X12_find, T_X12_pageOf, T_X12_beginOf, T_X12_pageComes, T_X12_pageGoes, T_X12_comes, T_X12_goes, T_X12_put, T_X12_drop, T_X12_move, T_X12_sow, T_X12_at, T_X12_weightOf, T_X12_count, T_X12_bounds, T_X12_page, T_X12_finds, T_X12_begins, T_X12_points, T_X12_joins, T_X12_stands, T_X12_far, T_X12_outside, T_X12_boxFar, T_X12_nearestOf, T_X12_none, T_X12_nth, T_X12_reads, T_X12_isAskable, T_X12_nearest, T_X12_within, T_X12_pairs, T_X12_found, T_X12_spent, T_X12_among, T_X12_means, T_X12_common, T_X12_mean, T_X12_compare, T_X12_witness, T_X12_out, T_X12_forge, T_X12_check, T_X12_lay, T_X12_ask, T_X12_image, T_X12_back, T_J6_bitCount_0f7a4, T_J13_compare_74951, T_J7_fill_53178, T_L_law]
def D_X0_init : MethodName × ByteArray × Nat × Option FieldType := (⟨"CurveShelf$Curve", "<init>", "(III[IZ)V"⟩, prog_2_method_1_code, 10, Option.none)
def D_X0_axisOf : MethodName × ByteArray × Nat × Option FieldType := (⟨"CurveShelf$Curve", "axisOf", "(II)I"⟩, prog_2_method_2_code, 3, (Option.some FieldType.int))
def D_X0_turned : MethodName × ByteArray × Nat × Option FieldType := (⟨"CurveShelf$Curve", "turned", "(III)I"⟩, prog_2_method_3_code, 4, (Option.some FieldType.int))
def D_X0_stateAfter : MethodName × ByteArray × Nat × Option FieldType := (⟨"CurveShelf$Curve", "stateAfter", "(III)I"⟩, prog_2_method_4_code, 4, (Option.some FieldType.int))
def D_X0_holds : MethodName × ByteArray × Nat × Option FieldType := (⟨"CurveShelf$Curve", "holds", "(III)Z"⟩, prog_2_method_5_code, 4, (Option.some FieldType.boolean))
def D_X0_axisByAxis : MethodName × ByteArray × Nat × Option FieldType := (⟨"CurveShelf$Curve", "axisByAxis", "([I)[I"⟩, prog_2_method_6_code, 5, (Option.some (FieldType.array FieldType.int)))
def D_X0_woven : MethodName × ByteArray × Nat × Option FieldType := (⟨"CurveShelf$Curve", "woven", "([I)[I"⟩, prog_2_method_7_code, 6, (Option.some (FieldType.array FieldType.int)))
def D_X1_init : MethodName × ByteArray × Nat × Option FieldType := (⟨"CurveShelf$Finds", "<init>", "(I)V"⟩, prog_3_method_1_code, 2, Option.none)
def D_X1_begin : MethodName × ByteArray × Nat × Option FieldType := (⟨"CurveShelf$Finds", "begin", "()V"⟩, prog_3_method_2_code, 1, Option.none)
def D_X1_append : MethodName × ByteArray × Nat × Option FieldType := (⟨"CurveShelf$Finds", "append", "(LCurveShelf$Point;J)V"⟩, prog_3_method_3_code, 4, Option.none)
def D_X1_offer : MethodName × ByteArray × Nat × Option FieldType := (⟨"CurveShelf$Finds", "offer", "(LCurveShelf$Point;JI)V"⟩, prog_3_method_4_code, 8, Option.none)
def D_X1_weights : MethodName × ByteArray × Nat × Option FieldType := (⟨"CurveShelf$Finds", "weights", "()I"⟩, prog_3_method_5_code, 3, (Option.some FieldType.int))
def D_X1_copyFrom : MethodName × ByteArray × Nat × Option FieldType := (⟨"CurveShelf$Finds", "copyFrom", "(LCurveShelf$Finds;)V"⟩, prog_3_method_6_code, 3, Option.none)
def D_X1_isBefore : MethodName × ByteArray × Nat × Option FieldType := (⟨"CurveShelf$Finds", "isBefore", "(LCurveShelf$Point;JI)Z"⟩, prog_3_method_7_code, 5, (Option.some FieldType.boolean))
def D_X2_init : MethodName × ByteArray × Nat × Option FieldType := (⟨"CurveShelf$Point", "<init>", "(IJIIII)V"⟩, prog_4_method_1_code, 8, Option.none)
def D_X2_on : MethodName × ByteArray × Nat × Option FieldType := (⟨"CurveShelf$Point", "on", "(I)I"⟩, prog_4_method_2_code, 2, (Option.some FieldType.int))
def D_X2_isAheadOf : MethodName × ByteArray × Nat × Option FieldType := (⟨"CurveShelf$Point", "isAheadOf", "(LCurveShelf$Point;)Z"⟩, prog_4_method_3_code, 2, (Option.some FieldType.boolean))
def D_X3_init : MethodName × ByteArray × Nat × Option FieldType := (⟨"CurveShelf$Row", "<init>", "()V"⟩, prog_5_method_1_code, 1, Option.none)
def D_X3_init_ : MethodName × ByteArray × Nat × Option FieldType := (⟨"CurveShelf$Row", "<init>", "(LCurveShelf$Row;I)V"⟩, prog_5_method_2_code, 4, Option.none)
def D_X3_come : MethodName × ByteArray × Nat × Option FieldType := (⟨"CurveShelf$Row", "come", "(LCurveShelf$Point;)I"⟩, prog_5_method_3_code, 4, (Option.some FieldType.int))
def D_X3_go : MethodName × ByteArray × Nat × Option FieldType := (⟨"CurveShelf$Row", "go", "(I)V"⟩, prog_5_method_4_code, 4, Option.none)
def D_X3_indexOf : MethodName × ByteArray × Nat × Option FieldType := (⟨"CurveShelf$Row", "indexOf", "(I)I"⟩, prog_5_method_5_code, 3, (Option.some FieldType.int))
def D_X3_pageOf : MethodName × ByteArray × Nat × Option FieldType := (⟨"CurveShelf$Row", "pageOf", "(I)I"⟩, prog_5_method_6_code, 4, (Option.some FieldType.int))
def D_X3_startOf : MethodName × ByteArray × Nat × Option FieldType := (⟨"CurveShelf$Row", "startOf", "(I)I"⟩, prog_5_method_7_code, 4, (Option.some FieldType.int))
def D_X3_weightsOf : MethodName × ByteArray × Nat × Option FieldType := (⟨"CurveShelf$Row", "weightsOf", "(II)I"⟩, prog_5_method_8_code, 5, (Option.some FieldType.int))
def D_X3_leastOf : MethodName × ByteArray × Nat × Option FieldType := (⟨"CurveShelf$Row", "leastOf", "(III)I"⟩, prog_5_method_9_code, 6, (Option.some FieldType.int))
def D_X3_greatestOf : MethodName × ByteArray × Nat × Option FieldType := (⟨"CurveShelf$Row", "greatestOf", "(III)I"⟩, prog_5_method_10_code, 6, (Option.some FieldType.int))
def D_X3_markNames : MethodName × ByteArray × Nat × Option FieldType := (⟨"CurveShelf$Row", "markNames", "([Z)V"⟩, prog_5_method_11_code, 3, Option.none)
def D_X3_part : MethodName × ByteArray × Nat × Option FieldType := (⟨"CurveShelf$Row", "part", "(I)V"⟩, prog_5_method_12_code, 3, Option.none)
def D_X3_melt : MethodName × ByteArray × Nat × Option FieldType := (⟨"CurveShelf$Row", "melt", "(I)V"⟩, prog_5_method_13_code, 2, Option.none)
def D_X3_removePage : MethodName × ByteArray × Nat × Option FieldType := (⟨"CurveShelf$Row", "removePage", "(I)V"⟩, prog_5_method_14_code, 3, Option.none)
def D_X4_init : MethodName × ByteArray × Nat × Option FieldType := (⟨"CurveShelf$Search", "<init>", "()V"⟩, prog_6_method_1_code, 1, Option.none)
def D_X4_aim : MethodName × ByteArray × Nat × Option FieldType := (⟨"CurveShelf$Search", "aim", "(IIII)V"⟩, prog_6_method_2_code, 5, Option.none)
def D_X4_measure : MethodName × ByteArray × Nat × Option FieldType := (⟨"CurveShelf$Search", "measure", "(LCurveShelf$Row;)V"⟩, prog_6_method_3_code, 11, Option.none)
def D_X4_readNearest : MethodName × ByteArray × Nat × Option FieldType := (⟨"CurveShelf$Search", "readNearest", "(LCurveShelf$Row;ILCurveShelf$Finds;)V"⟩, prog_6_method_4_code, 6, Option.none)
def D_X4_readWithin : MethodName × ByteArray × Nat × Option FieldType := (⟨"CurveShelf$Search", "readWithin", "(LCurveShelf$Row;JLCurveShelf$Finds;)V"⟩, prog_6_method_5_code, 10, Option.none)
def D_X4_readPage : MethodName × ByteArray × Nat × Option FieldType := (⟨"CurveShelf$Search", "readPage", "(LCurveShelf$Row;IILCurveShelf$Finds;)V"⟩, prog_6_method_6_code, 7, Option.none)
def D_X4_readClosest : MethodName × ByteArray × Nat × Option FieldType := (⟨"CurveShelf$Search", "readClosest", "(LCurveShelf$Row;ILCurveShelf$Finds;)V"⟩, prog_6_method_7_code, 18, Option.none)
def D_X4_comesFirst : MethodName × ByteArray × Nat × Option FieldType := (⟨"CurveShelf$Search", "comesFirst", "(LCurveShelf$Point;LCurveShelf$Point;LCurveShelf$Point;LCurveShelf$Point;)Z"⟩, prog_6_method_8_code, 4, (Option.some FieldType.boolean))
def D_X4_nextUnread : MethodName × ByteArray × Nat × Option FieldType := (⟨"CurveShelf$Search", "nextUnread", "(I)I"⟩, prog_6_method_9_code, 4, (Option.some FieldType.int))
def D_X4_farOf : MethodName × ByteArray × Nat × Option FieldType := (⟨"CurveShelf$Search", "farOf", "(LCurveShelf$Point;)J"⟩, prog_6_method_10_code, 2, (Option.some FieldType.long))
def D_X4_between : MethodName × ByteArray × Nat × Option FieldType := (⟨"CurveShelf$Search", "between", "(ILCurveShelf$Point;LCurveShelf$Point;)J"⟩, prog_6_method_11_code, 3, (Option.some FieldType.long))
def D_X4_boxGap : MethodName × ByteArray × Nat × Option FieldType := (⟨"CurveShelf$Search", "boxGap", "(LCurveShelf$Row;IIII)J"⟩, prog_6_method_12_code, 7, (Option.some FieldType.long))
def D_X4_distance : MethodName × ByteArray × Nat × Option FieldType := (⟨"CurveShelf$Search", "distance", "(IJJJ)J"⟩, prog_6_method_13_code, 7, (Option.some FieldType.long))
def D_X5_init : MethodName × ByteArray × Nat × Option FieldType := (⟨"CurveShelf$Shelf", "<init>", "()V"⟩, prog_7_method_1_code, 1, Option.none)
def D_X5_begin : MethodName × ByteArray × Nat × Option FieldType := (⟨"CurveShelf$Shelf", "begin", "(LCurveShelf$Curve;)V"⟩, prog_7_method_2_code, 2, Option.none)
def D_X5_act : MethodName × ByteArray × Nat × Option FieldType := (⟨"CurveShelf$Shelf", "act", "(LCurveShelf$Row;)V"⟩, prog_7_method_3_code, 3, Option.none)
def D_X5_takeBack : MethodName × ByteArray × Nat × Option FieldType := (⟨"CurveShelf$Shelf", "takeBack", "()I"⟩, prog_7_method_4_code, 1, (Option.some FieldType.int))
def D_X5_copyFrom : MethodName × ByteArray × Nat × Option FieldType := (⟨"CurveShelf$Shelf", "copyFrom", "(LCurveShelf$Shelf;)V"⟩, prog_7_method_5_code, 3, Option.none)
def D_X6_init : MethodName × ByteArray × Nat × Option FieldType := (⟨"CurveShelf$Snail", "<init>", "(II[I)V"⟩, prog_8_method_1_code, 4, Option.none)
def D_X6_turned : MethodName × ByteArray × Nat × Option FieldType := (⟨"CurveShelf$Snail", "turned", "(III)I"⟩, prog_8_method_2_code, 5, (Option.some FieldType.int))
def D_X6_stateAfter : MethodName × ByteArray × Nat × Option FieldType := (⟨"CurveShelf$Snail", "stateAfter", "(III)I"⟩, prog_8_method_3_code, 4, (Option.some FieldType.int))
def D_X7_init : MethodName × ByteArray × Nat × Option FieldType := (⟨"CurveShelf$Spans", "<init>", "()V"⟩, prog_9_method_1_code, 1, Option.none)
def D_X7_begin : MethodName × ByteArray × Nat × Option FieldType := (⟨"CurveShelf$Spans", "begin", "(J)V"⟩, prog_9_method_2_code, 3, Option.none)
def D_X7_append : MethodName × ByteArray × Nat × Option FieldType := (⟨"CurveShelf$Spans", "append", "(JJ)V"⟩, prog_9_method_3_code, 5, Option.none)
def D_X7_numbers : MethodName × ByteArray × Nat × Option FieldType := (⟨"CurveShelf$Spans", "numbers", "()J"⟩, prog_9_method_4_code, 4, (Option.some FieldType.long))
def D_X7_meltTo : MethodName × ByteArray × Nat × Option FieldType := (⟨"CurveShelf$Spans", "meltTo", "(I)V"⟩, prog_9_method_5_code, 4, Option.none)
def D_X7_copyFrom : MethodName × ByteArray × Nat × Option FieldType := (⟨"CurveShelf$Spans", "copyFrom", "(LCurveShelf$Spans;)V"⟩, prog_9_method_6_code, 2, Option.none)
def D_X8_init : MethodName × ByteArray × Nat × Option FieldType := (⟨"CurveShelf$State", "<init>", "()V"⟩, prog_10_method_1_code, 2, Option.none)
def D_X8_setCorner : MethodName × ByteArray × Nat × Option FieldType := (⟨"CurveShelf$State", "setCorner", "(IIII)V"⟩, prog_10_method_2_code, 5, Option.none)
def D_X8_layOnRack : MethodName × ByteArray × Nat × Option FieldType := (⟨"CurveShelf$State", "layOnRack", "(IIJJ)Z"⟩, prog_10_method_3_code, 7, (Option.some FieldType.boolean))
def D_X8_copyFrom : MethodName × ByteArray × Nat × Option FieldType := (⟨"CurveShelf$State", "copyFrom", "(LCurveShelf$State;)V"⟩, prog_10_method_4_code, 3, Option.none)
def D_X9_init : MethodName × ByteArray × Nat × Option FieldType := (⟨"CurveShelf$Turning", "<init>", "(II[I)V"⟩, prog_11_method_1_code, 4, Option.none)
def D_X9_axisOf : MethodName × ByteArray × Nat × Option FieldType := (⟨"CurveShelf$Turning", "axisOf", "(II)I"⟩, prog_11_method_2_code, 3, (Option.some FieldType.int))
def D_X9_turned : MethodName × ByteArray × Nat × Option FieldType := (⟨"CurveShelf$Turning", "turned", "(III)I"⟩, prog_11_method_3_code, 6, (Option.some FieldType.int))
def D_X9_stateAfter : MethodName × ByteArray × Nat × Option FieldType := (⟨"CurveShelf$Turning", "stateAfter", "(III)I"⟩, prog_11_method_4_code, 13, (Option.some FieldType.int))
def D_X9_bitBeforeTurn : MethodName × ByteArray × Nat × Option FieldType := (⟨"CurveShelf$Turning", "bitBeforeTurn", "(II)I"⟩, prog_11_method_5_code, 4, (Option.some FieldType.int))
def D_X10_init : MethodName × ByteArray × Nat × Option FieldType := (⟨"CurveShelf$Walk", "<init>", "()V"⟩, prog_12_method_1_code, 1, Option.none)
def D_X10_enter : MethodName × ByteArray × Nat × Option FieldType := (⟨"CurveShelf$Walk", "enter", "(LCurveShelf$Curve;)V"⟩, prog_12_method_2_code, 3, Option.none)
def D_X10_narrow : MethodName × ByteArray × Nat × Option FieldType := (⟨"CurveShelf$Walk", "narrow", "(III)V"⟩, prog_12_method_3_code, 4, Option.none)
def D_X10_windowPlaces : MethodName × ByteArray × Nat × Option FieldType := (⟨"CurveShelf$Walk", "windowPlaces", "()J"⟩, prog_12_method_4_code, 4, (Option.some FieldType.long))
def D_X10_isInWindow : MethodName × ByteArray × Nat × Option FieldType := (⟨"CurveShelf$Walk", "isInWindow", "(LCurveShelf$Point;)Z"⟩, prog_12_method_5_code, 4, (Option.some FieldType.boolean))
def D_X10_leaf : MethodName × ByteArray × Nat × Option FieldType := (⟨"CurveShelf$Walk", "leaf", "(I)I"⟩, prog_12_method_6_code, 2, (Option.some FieldType.int))
def D_X10_numberOf : MethodName × ByteArray × Nat × Option FieldType := (⟨"CurveShelf$Walk", "numberOf", "(LCurveShelf$Curve;III)J"⟩, prog_12_method_7_code, 9, (Option.some FieldType.long))
def D_X10_seek : MethodName × ByteArray × Nat × Option FieldType := (⟨"CurveShelf$Walk", "seek", "(JZ)J"⟩, prog_12_method_8_code, 7, (Option.some FieldType.long))
def D_X10_onward : MethodName × ByteArray × Nat × Option FieldType := (⟨"CurveShelf$Walk", "onward", "(Z)J"⟩, prog_12_method_9_code, 2, (Option.some FieldType.long))
def D_X10_climb : MethodName × ByteArray × Nat × Option FieldType := (⟨"CurveShelf$Walk", "climb", "(IZ)J"⟩, prog_12_method_10_code, 5, (Option.some FieldType.long))
def D_X10_descend : MethodName × ByteArray × Nat × Option FieldType := (⟨"CurveShelf$Walk", "descend", "(IZ)J"⟩, prog_12_method_11_code, 5, (Option.some FieldType.long))
def D_X10_step : MethodName × ByteArray × Nat × Option FieldType := (⟨"CurveShelf$Walk", "step", "(II)V"⟩, prog_12_method_12_code, 6, Option.none)
def D_X10_meets : MethodName × ByteArray × Nat × Option FieldType := (⟨"CurveShelf$Walk", "meets", "(IZ)Z"⟩, prog_12_method_13_code, 7, (Option.some FieldType.boolean))
def D_X11_init : MethodName × ByteArray × Nat × Option FieldType := (⟨"CurveShelf", "<init>", "()V"⟩, prog_1_method_1_code, 1, Option.none)
def D_X11_curve : MethodName × ByteArray × Nat × Option FieldType := (⟨"CurveShelf", "curve", "(IIIII)I"⟩, prog_1_method_2_code, 10, (Option.some FieldType.int))
def D_X11_number : MethodName × ByteArray × Nat × Option FieldType := (⟨"CurveShelf", "number", "(IIII)J"⟩, prog_1_method_3_code, 6, (Option.some FieldType.long))
def D_X11_place : MethodName × ByteArray × Nat × Option FieldType := (⟨"CurveShelf", "place", "(IJI)I"⟩, prog_1_method_4_code, 6, (Option.some FieldType.int))
def D_X11_size : MethodName × ByteArray × Nat × Option FieldType := (⟨"CurveShelf", "size", "(I)J"⟩, prog_1_method_5_code, 3, (Option.some FieldType.long))
def D_X11_gap : MethodName × ByteArray × Nat × Option FieldType := (⟨"CurveShelf", "gap", "(IJI)I"⟩, prog_1_method_6_code, 12, (Option.some FieldType.int))
def D_X11_canBeCurve : MethodName × ByteArray × Nat × Option FieldType := (⟨"CurveShelf", "canBeCurve", "(IIIII)Z"⟩, prog_1_method_7_code, 6, (Option.some FieldType.boolean))
def D_X11_curveAt : MethodName × ByteArray × Nat × Option FieldType := (⟨"CurveShelf", "curveAt", "(I)LCurveShelf$Curve;"⟩, prog_1_method_8_code, 2, (Option.some (FieldType.object "CurveShelf$Curve")))
def D_X11_shelf : MethodName × ByteArray × Nat × Option FieldType := (⟨"CurveShelf", "shelf", "(II)Z"⟩, prog_1_method_9_code, 4, (Option.some FieldType.boolean))
def D_X11_put : MethodName × ByteArray × Nat × Option FieldType := (⟨"CurveShelf", "put", "(IIIIII)I"⟩, prog_1_method_10_code, 10, (Option.some FieldType.int))
def D_X11_drop : MethodName × ByteArray × Nat × Option FieldType := (⟨"CurveShelf", "drop", "(II)I"⟩, prog_1_method_11_code, 6, (Option.some FieldType.int))
def D_X11_move : MethodName × ByteArray × Nat × Option FieldType := (⟨"CurveShelf", "move", "(IIIII)I"⟩, prog_1_method_12_code, 11, (Option.some FieldType.int))
def D_X11_sow : MethodName × ByteArray × Nat × Option FieldType := (⟨"CurveShelf", "sow", "(III)I"⟩, prog_1_method_13_code, 13, (Option.some FieldType.int))
def D_X11_find : MethodName × ByteArray × Nat × Option FieldType := (⟨"CurveShelf", "find", "(II)I"⟩, prog_1_method_14_code, 4, (Option.some FieldType.int))
def D_X11_at : MethodName × ByteArray × Nat × Option FieldType := (⟨"CurveShelf", "at", "(III)I"⟩, prog_1_method_15_code, 6, (Option.some FieldType.int))
def D_X11_count : MethodName × ByteArray × Nat × Option FieldType := (⟨"CurveShelf", "count", "(II)I"⟩, prog_1_method_16_code, 4, (Option.some FieldType.int))
def D_X11_page : MethodName × ByteArray × Nat × Option FieldType := (⟨"CurveShelf", "page", "(III)I"⟩, prog_1_method_17_code, 7, (Option.some FieldType.int))
def D_X11_undo : MethodName × ByteArray × Nat × Option FieldType := (⟨"CurveShelf", "undo", "(I)I"⟩, prog_1_method_18_code, 3, (Option.some FieldType.int))
def D_X11_shelfAt : MethodName × ByteArray × Nat × Option FieldType := (⟨"CurveShelf", "shelfAt", "(I)LCurveShelf$Shelf;"⟩, prog_1_method_19_code, 2, (Option.some (FieldType.object "CurveShelf$Shelf")))
def D_X11_drawAfter : MethodName × ByteArray × Nat × Option FieldType := (⟨"CurveShelf", "drawAfter", "(I)I"⟩, prog_1_method_20_code, 1, (Option.some FieldType.int))
def D_X11_drawn : MethodName × ByteArray × Nat × Option FieldType := (⟨"CurveShelf", "drawn", "(II)I"⟩, prog_1_method_21_code, 2, (Option.some FieldType.int))
def D_X11_takeFreeName : MethodName × ByteArray × Nat × Option FieldType := (⟨"CurveShelf", "takeFreeName", "()I"⟩, prog_1_method_22_code, 2, (Option.some FieldType.int))
def D_X11_low : MethodName × ByteArray × Nat × Option FieldType := (⟨"CurveShelf", "low", "(III)V"⟩, prog_1_method_23_code, 4, Option.none)
def D_X11_high : MethodName × ByteArray × Nat × Option FieldType := (⟨"CurveShelf", "high", "(III)V"⟩, prog_1_method_24_code, 4, Option.none)
def D_X11_spans : MethodName × ByteArray × Nat × Option FieldType := (⟨"CurveShelf", "spans", "(I)I"⟩, prog_1_method_25_code, 3, (Option.some FieldType.int))
def D_X11_span : MethodName × ByteArray × Nat × Option FieldType := (⟨"CurveShelf", "span", "(II)J"⟩, prog_1_method_26_code, 3, (Option.some FieldType.long))
def D_X11_few : MethodName × ByteArray × Nat × Option FieldType := (⟨"CurveShelf", "few", "(I)I"⟩, prog_1_method_27_code, 2, (Option.some FieldType.int))
def D_X11_beyond : MethodName × ByteArray × Nat × Option FieldType := (⟨"CurveShelf", "beyond", "()J"⟩, prog_1_method_28_code, 1, (Option.some FieldType.long))
def D_X11_jump : MethodName × ByteArray × Nat × Option FieldType := (⟨"CurveShelf", "jump", "(IJ)J"⟩, prog_1_method_29_code, 5, (Option.some FieldType.long))
def D_X11_enterWindow : MethodName × ByteArray × Nat × Option FieldType := (⟨"CurveShelf", "enterWindow", "(LCurveShelf$Curve;)Z"⟩, prog_1_method_30_code, 4, (Option.some FieldType.boolean))
def D_X11_gatherSpans : MethodName × ByteArray × Nat × Option FieldType := (⟨"CurveShelf", "gatherSpans", "(LCurveShelf$Curve;)Z"⟩, prog_1_method_31_code, 7, (Option.some FieldType.boolean))
def D_X11_points : MethodName × ByteArray × Nat × Option FieldType := (⟨"CurveShelf", "points", "(I)I"⟩, prog_1_method_32_code, 8, (Option.some FieldType.int))
def D_X11_nearest : MethodName × ByteArray × Nat × Option FieldType := (⟨"CurveShelf", "nearest", "(IIIIII)I"⟩, prog_1_method_33_code, 8, (Option.some FieldType.int))
def D_X11_within : MethodName × ByteArray × Nat × Option FieldType := (⟨"CurveShelf", "within", "(IIIIII)I"⟩, prog_1_method_34_code, 8, (Option.some FieldType.int))
def D_X11_pairs : MethodName × ByteArray × Nat × Option FieldType := (⟨"CurveShelf", "pairs", "(II)I"⟩, prog_1_method_35_code, 4, (Option.some FieldType.int))
def D_X11_found : MethodName × ByteArray × Nat × Option FieldType := (⟨"CurveShelf", "found", "(II)J"⟩, prog_1_method_36_code, 3, (Option.some FieldType.long))
def D_X11_spent : MethodName × ByteArray × Nat × Option FieldType := (⟨"CurveShelf", "spent", "(I)I"⟩, prog_1_method_37_code, 2, (Option.some FieldType.int))
def D_X11_appendInWindow : MethodName × ByteArray × Nat × Option FieldType := (⟨"CurveShelf", "appendInWindow", "(LCurveShelf$Row;II)V"⟩, prog_1_method_38_code, 6, Option.none)
def D_X11_isWay : MethodName × ByteArray × Nat × Option FieldType := (⟨"CurveShelf", "isWay", "(I)Z"⟩, prog_1_method_39_code, 1, (Option.some FieldType.boolean))
def D_X11_aimAt : MethodName × ByteArray × Nat × Option FieldType := (⟨"CurveShelf", "aimAt", "(IIIII)LCurveShelf$Row;"⟩, prog_1_method_40_code, 7, (Option.some (FieldType.object "CurveShelf$Row")))
def D_X11_mean : MethodName × ByteArray × Nat × Option FieldType := (⟨"CurveShelf", "mean", "(IIIII)J"⟩, prog_1_method_41_code, 13, (Option.some FieldType.long))
def D_X11_compare : MethodName × ByteArray × Nat × Option FieldType := (⟨"CurveShelf", "compare", "(IIIII)I"⟩, prog_1_method_42_code, 8, (Option.some FieldType.int))
def D_X11_hasMean : MethodName × ByteArray × Nat × Option FieldType := (⟨"CurveShelf", "hasMean", "(LCurveShelf$Curve;III)Z"⟩, prog_1_method_43_code, 4, (Option.some FieldType.boolean))
def D_X11_spansTogether : MethodName × ByteArray × Nat × Option FieldType := (⟨"CurveShelf", "spansTogether", "(LCurveShelf$Curve;III)J"⟩, prog_1_method_44_code, 14, (Option.some FieldType.long))
def D_X11_windowsWithBoth : MethodName × ByteArray × Nat × Option FieldType := (⟨"CurveShelf", "windowsWithBoth", "(IIII)I"⟩, prog_1_method_45_code, 6, (Option.some FieldType.int))
def D_X11_greatestDivisor : MethodName × ByteArray × Nat × Option FieldType := (⟨"CurveShelf", "greatestDivisor", "(JJ)J"⟩, prog_1_method_46_code, 11, (Option.some FieldType.long))
def D_X11_witness : MethodName × ByteArray × Nat × Option FieldType := (⟨"CurveShelf", "witness", "(IIIIII)I"⟩, prog_1_method_47_code, 10, (Option.some FieldType.int))
def D_X11_out : MethodName × ByteArray × Nat × Option FieldType := (⟨"CurveShelf", "out", "(I)I"⟩, prog_1_method_48_code, 2, (Option.some FieldType.int))
def D_X11_forge : MethodName × ByteArray × Nat × Option FieldType := (⟨"CurveShelf", "forge", "(II)I"⟩, prog_1_method_49_code, 4, (Option.some FieldType.int))
def D_X11_check : MethodName × ByteArray × Nat × Option FieldType := (⟨"CurveShelf", "check", "(IIIIII)I"⟩, prog_1_method_50_code, 9, (Option.some FieldType.int))
def D_X11_firstFalsePage : MethodName × ByteArray × Nat × Option FieldType := (⟨"CurveShelf", "firstFalsePage", "(I)I"⟩, prog_1_method_51_code, 4, (Option.some FieldType.int))
def D_X11_tellsFar : MethodName × ByteArray × Nat × Option FieldType := (⟨"CurveShelf", "tellsFar", "(I)J"⟩, prog_1_method_52_code, 5, (Option.some FieldType.long))
def D_X11_firstMissedPage : MethodName × ByteArray × Nat × Option FieldType := (⟨"CurveShelf", "firstMissedPage", "(LCurveShelf$Row;I)I"⟩, prog_1_method_53_code, 5, (Option.some FieldType.int))
def D_X11_lay : MethodName × ByteArray × Nat × Option FieldType := (⟨"CurveShelf", "lay", "(IIII)Z"⟩, prog_1_method_54_code, 5, (Option.some FieldType.boolean))
def D_X11_ask : MethodName × ByteArray × Nat × Option FieldType := (⟨"CurveShelf", "ask", "(II)J"⟩, prog_1_method_55_code, 4, (Option.some FieldType.long))
def D_X11_layPoint : MethodName × ByteArray × Nat × Option FieldType := (⟨"CurveShelf", "layPoint", "(ILCurveShelf$Shelf;I)Z"⟩, prog_1_method_56_code, 6, (Option.some FieldType.boolean))
def D_X11_layPage : MethodName × ByteArray × Nat × Option FieldType := (⟨"CurveShelf", "layPage", "(ILCurveShelf$Shelf;I)Z"⟩, prog_1_method_57_code, 5, (Option.some FieldType.boolean))
def D_X11_layCurve : MethodName × ByteArray × Nat × Option FieldType := (⟨"CurveShelf", "layCurve", "(ILCurveShelf$Curve;)Z"⟩, prog_1_method_58_code, 3, (Option.some FieldType.boolean))
def D_X11_image : MethodName × ByteArray × Nat × Option FieldType := (⟨"CurveShelf", "image", "(I)Z"⟩, prog_1_method_59_code, 2, (Option.some FieldType.boolean))
def D_X11_back : MethodName × ByteArray × Nat × Option FieldType := (⟨"CurveShelf", "back", "(I)Z"⟩, prog_1_method_60_code, 2, (Option.some FieldType.boolean))
def D_X12_init : MethodName × ByteArray × Nat × Option FieldType := (⟨"CurveShelfModel", "<init>", "()V"⟩, prog_14_method_1_code, 1, Option.none)
def D_X12_isCurve : MethodName × ByteArray × Nat × Option FieldType := (⟨"CurveShelfModel", "isCurve", "(I)Z"⟩, prog_14_method_2_code, 2, (Option.some FieldType.boolean))
def D_X12_of : MethodName × ByteArray × Nat × Option FieldType := (⟨"CurveShelfModel", "of", "(II)I"⟩, prog_14_method_3_code, 3, (Option.some FieldType.int))
def D_X12_kind : MethodName × ByteArray × Nat × Option FieldType := (⟨"CurveShelfModel", "kind", "(I)I"⟩, prog_14_method_4_code, 2, (Option.some FieldType.int))
def D_X12_axes : MethodName × ByteArray × Nat × Option FieldType := (⟨"CurveShelfModel", "axes", "(I)I"⟩, prog_14_method_5_code, 2, (Option.some FieldType.int))
def D_X12_has : MethodName × ByteArray × Nat × Option FieldType := (⟨"CurveShelfModel", "has", "(II)I"⟩, prog_14_method_6_code, 3, (Option.some FieldType.int))
def D_X12_can : MethodName × ByteArray × Nat × Option FieldType := (⟨"CurveShelfModel", "can", "(II)I"⟩, prog_14_method_7_code, 5, (Option.some FieldType.int))
def D_X12_curve : MethodName × ByteArray × Nat × Option FieldType := (⟨"CurveShelfModel", "curve", "(IIIII)I"⟩, prog_14_method_8_code, 11, (Option.some FieldType.int))
def D_X12_size : MethodName × ByteArray × Nat × Option FieldType := (⟨"CurveShelfModel", "size", "(I)J"⟩, prog_14_method_9_code, 2, (Option.some FieldType.long))
def D_X12_lays : MethodName × ByteArray × Nat × Option FieldType := (⟨"CurveShelfModel", "lays", "(I)V"⟩, prog_14_method_10_code, 5, Option.none)
def D_X12_splits : MethodName × ByteArray × Nat × Option FieldType := (⟨"CurveShelfModel", "splits", "(J)V"⟩, prog_14_method_11_code, 6, Option.none)
def D_X12_joined : MethodName × ByteArray × Nat × Option FieldType := (⟨"CurveShelfModel", "joined", "()J"⟩, prog_14_method_12_code, 4, (Option.some FieldType.long))
def D_X12_turnedLeft : MethodName × ByteArray × Nat × Option FieldType := (⟨"CurveShelfModel", "turnedLeft", "(III)I"⟩, prog_14_method_13_code, 5, (Option.some FieldType.int))
def D_X12_turns : MethodName × ByteArray × Nat × Option FieldType := (⟨"CurveShelfModel", "turns", "(II)V"⟩, prog_14_method_15_code, 6, Option.none)
def D_X12_box : MethodName × ByteArray × Nat × Option FieldType := (⟨"CurveShelfModel", "box", "(II)V"⟩, prog_14_method_16_code, 9, Option.none)
def D_X12_narrows : MethodName × ByteArray × Nat × Option FieldType := (⟨"CurveShelfModel", "narrows", "(III)V"⟩, prog_14_method_17_code, 5, Option.none)
def D_X12_isPlace : MethodName × ByteArray × Nat × Option FieldType := (⟨"CurveShelfModel", "isPlace", "(IIII)Z"⟩, prog_14_method_18_code, 5, (Option.some FieldType.boolean))
def D_X12_numberOf : MethodName × ByteArray × Nat × Option FieldType := (⟨"CurveShelfModel", "numberOf", "(IIII)J"⟩, prog_14_method_19_code, 6, (Option.some FieldType.long))
def D_X12_number : MethodName × ByteArray × Nat × Option FieldType := (⟨"CurveShelfModel", "number", "(IIII)J"⟩, prog_14_method_20_code, 5, (Option.some FieldType.long))
def D_X12_placed : MethodName × ByteArray × Nat × Option FieldType := (⟨"CurveShelfModel", "placed", "(IJ)V"⟩, prog_14_method_21_code, 4, Option.none)
def D_X12_place : MethodName × ByteArray × Nat × Option FieldType := (⟨"CurveShelfModel", "place", "(IJI)I"⟩, prog_14_method_22_code, 5, (Option.some FieldType.int))
def D_X12_gap : MethodName × ByteArray × Nat × Option FieldType := (⟨"CurveShelfModel", "gap", "(IJI)I"⟩, prog_14_method_23_code, 11, (Option.some FieldType.int))
def D_X12_off : MethodName × ByteArray × Nat × Option FieldType := (⟨"CurveShelfModel", "off", "(II)I"⟩, prog_14_method_24_code, 2, (Option.some FieldType.int))
def D_X12_low : MethodName × ByteArray × Nat × Option FieldType := (⟨"CurveShelfModel", "low", "(III)V"⟩, prog_14_method_25_code, 4, Option.none)
def D_X12_high : MethodName × ByteArray × Nat × Option FieldType := (⟨"CurveShelfModel", "high", "(III)V"⟩, prog_14_method_26_code, 4, Option.none)
def D_X12_isWindow : MethodName × ByteArray × Nat × Option FieldType := (⟨"CurveShelfModel", "isWindow", "(I)Z"⟩, prog_14_method_27_code, 4, (Option.some FieldType.boolean))
def D_X12_isAsked : MethodName × ByteArray × Nat × Option FieldType := (⟨"CurveShelfModel", "isAsked", "(Z)Z"⟩, prog_14_method_28_code, 5, (Option.some FieldType.boolean))
def D_X12_next : MethodName × ByteArray × Nat × Option FieldType := (⟨"CurveShelfModel", "next", "(IJZ)J"⟩, prog_14_method_29_code, 6, (Option.some FieldType.long))
def D_X12_lowest : MethodName × ByteArray × Nat × Option FieldType := (⟨"CurveShelfModel", "lowest", "(IIZ)J"⟩, prog_14_method_30_code, 5, (Option.some FieldType.long))
def D_X12_spans : MethodName × ByteArray × Nat × Option FieldType := (⟨"CurveShelfModel", "spans", "(I)I"⟩, prog_14_method_31_code, 8, (Option.some FieldType.int))
def D_X12_span : MethodName × ByteArray × Nat × Option FieldType := (⟨"CurveShelfModel", "span", "(II)J"⟩, prog_14_method_32_code, 3, (Option.some FieldType.long))
def D_X12_few : MethodName × ByteArray × Nat × Option FieldType := (⟨"CurveShelfModel", "few", "(I)I"⟩, prog_14_method_33_code, 4, (Option.some FieldType.int))
def D_X12_between : MethodName × ByteArray × Nat × Option FieldType := (⟨"CurveShelfModel", "between", "(I)J"⟩, prog_14_method_34_code, 2, (Option.some FieldType.long))
def D_X12_beyond : MethodName × ByteArray × Nat × Option FieldType := (⟨"CurveShelfModel", "beyond", "()J"⟩, prog_14_method_35_code, 4, (Option.some FieldType.long))
def D_X12_jump : MethodName × ByteArray × Nat × Option FieldType := (⟨"CurveShelfModel", "jump", "(IJ)J"⟩, prog_14_method_36_code, 4, (Option.some FieldType.long))
def D_X12_opens : MethodName × ByteArray × Nat × Option FieldType := (⟨"CurveShelfModel", "opens", "(I)Z"⟩, prog_14_method_37_code, 2, (Option.some FieldType.boolean))
def D_X12_held : MethodName × ByteArray × Nat × Option FieldType := (⟨"CurveShelfModel", "held", "()I"⟩, prog_14_method_38_code, 1, (Option.some FieldType.int))
def D_X12_pages : MethodName × ByteArray × Nat × Option FieldType := (⟨"CurveShelfModel", "pages", "()I"⟩, prog_14_method_39_code, 1, (Option.some FieldType.int))
def D_X12_curveOf : MethodName × ByteArray × Nat × Option FieldType := (⟨"CurveShelfModel", "curveOf", "()I"⟩, prog_14_method_40_code, 1, (Option.some FieldType.int))
def D_X12_point : MethodName × ByteArray × Nat × Option FieldType := (⟨"CurveShelfModel", "point", "(II)J"⟩, prog_14_method_41_code, 3, (Option.some FieldType.long))
def D_X12_onPage : MethodName × ByteArray × Nat × Option FieldType := (⟨"CurveShelfModel", "onPage", "(I)I"⟩, prog_14_method_42_code, 2, (Option.some FieldType.int))
def D_X12_shelf : MethodName × ByteArray × Nat × Option FieldType := (⟨"CurveShelfModel", "shelf", "(II)Z"⟩, prog_14_method_43_code, 3, (Option.some FieldType.boolean))
def D_X12_keeps : MethodName × ByteArray × Nat × Option FieldType := (⟨"CurveShelfModel", "keeps", "(IZ)V"⟩, prog_14_method_44_code, 5, Option.none)
def D_X12_undo : MethodName × ByteArray × Nat × Option FieldType := (⟨"CurveShelfModel", "undo", "(I)I"⟩, prog_14_method_45_code, 2, (Option.some FieldType.int))
def D_X12_named : MethodName × ByteArray × Nat × Option FieldType := (⟨"CurveShelfModel", "named", "(I)I"⟩, prog_14_method_46_code, 3, (Option.some FieldType.int))
def D_X12_find : MethodName × ByteArray × Nat × Option FieldType := (⟨"CurveShelfModel", "find", "(II)I"⟩, prog_14_method_47_code, 3, (Option.some FieldType.int))
def D_X12_pageOf : MethodName × ByteArray × Nat × Option FieldType := (⟨"CurveShelfModel", "pageOf", "(I)I"⟩, prog_14_method_48_code, 4, (Option.some FieldType.int))
def D_X12_beginOf : MethodName × ByteArray × Nat × Option FieldType := (⟨"CurveShelfModel", "beginOf", "(I)I"⟩, prog_14_method_49_code, 4, (Option.some FieldType.int))
def D_X12_pageComes : MethodName × ByteArray × Nat × Option FieldType := (⟨"CurveShelfModel", "pageComes", "(II)V"⟩, prog_14_method_50_code, 4, Option.none)
def D_X12_pageGoes : MethodName × ByteArray × Nat × Option FieldType := (⟨"CurveShelfModel", "pageGoes", "(I)V"⟩, prog_14_method_51_code, 3, Option.none)
def D_X12_comes : MethodName × ByteArray × Nat × Option FieldType := (⟨"CurveShelfModel", "comes", "(IIIII)I"⟩, prog_14_method_52_code, 12, (Option.some FieldType.int))
def D_X12_goes : MethodName × ByteArray × Nat × Option FieldType := (⟨"CurveShelfModel", "goes", "(I)V"⟩, prog_14_method_53_code, 5, Option.none)
def D_X12_put : MethodName × ByteArray × Nat × Option FieldType := (⟨"CurveShelfModel", "put", "(IIIIII)I"⟩, prog_14_method_54_code, 7, (Option.some FieldType.int))
def D_X12_drop : MethodName × ByteArray × Nat × Option FieldType := (⟨"CurveShelfModel", "drop", "(II)I"⟩, prog_14_method_55_code, 3, (Option.some FieldType.int))
def D_X12_move : MethodName × ByteArray × Nat × Option FieldType := (⟨"CurveShelfModel", "move", "(IIIII)I"⟩, prog_14_method_56_code, 8, (Option.some FieldType.int))
def D_X12_sow : MethodName × ByteArray × Nat × Option FieldType := (⟨"CurveShelfModel", "sow", "(III)I"⟩, prog_14_method_57_code, 11, (Option.some FieldType.int))
def D_X12_at : MethodName × ByteArray × Nat × Option FieldType := (⟨"CurveShelfModel", "at", "(III)I"⟩, prog_14_method_58_code, 4, (Option.some FieldType.int))
def D_X12_weightOf : MethodName × ByteArray × Nat × Option FieldType := (⟨"CurveShelfModel", "weightOf", "(II)I"⟩, prog_14_method_59_code, 5, (Option.some FieldType.int))
def D_X12_count : MethodName × ByteArray × Nat × Option FieldType := (⟨"CurveShelfModel", "count", "(II)I"⟩, prog_14_method_60_code, 3, (Option.some FieldType.int))
def D_X12_bounds : MethodName × ByteArray × Nat × Option FieldType := (⟨"CurveShelfModel", "bounds", "(I)V"⟩, prog_14_method_61_code, 6, Option.none)
def D_X12_page : MethodName × ByteArray × Nat × Option FieldType := (⟨"CurveShelfModel", "page", "(III)I"⟩, prog_14_method_62_code, 4, (Option.some FieldType.int))
def D_X12_finds : MethodName × ByteArray × Nat × Option FieldType := (⟨"CurveShelfModel", "finds", "(IJ)V"⟩, prog_14_method_63_code, 5, Option.none)
def D_X12_begins : MethodName × ByteArray × Nat × Option FieldType := (⟨"CurveShelfModel", "begins", "()V"⟩, prog_14_method_64_code, 1, Option.none)
def D_X12_points : MethodName × ByteArray × Nat × Option FieldType := (⟨"CurveShelfModel", "points", "(I)I"⟩, prog_14_method_65_code, 10, (Option.some FieldType.int))
def D_X12_joins : MethodName × ByteArray × Nat × Option FieldType := (⟨"CurveShelfModel", "joins", "(IJJJ)J"⟩, prog_14_method_66_code, 9, (Option.some FieldType.long))
def D_X12_stands : MethodName × ByteArray × Nat × Option FieldType := (⟨"CurveShelfModel", "stands", "(III)V"⟩, prog_14_method_67_code, 4, Option.none)
def D_X12_far : MethodName × ByteArray × Nat × Option FieldType := (⟨"CurveShelfModel", "far", "(II)J"⟩, prog_14_method_68_code, 3, (Option.some FieldType.long))
def D_X12_outside : MethodName × ByteArray × Nat × Option FieldType := (⟨"CurveShelfModel", "outside", "(III)I"⟩, prog_14_method_69_code, 3, (Option.some FieldType.int))
def D_X12_boxFar : MethodName × ByteArray × Nat × Option FieldType := (⟨"CurveShelfModel", "boxFar", "(II)J"⟩, prog_14_method_70_code, 3, (Option.some FieldType.long))
def D_X12_nearestOf : MethodName × ByteArray × Nat × Option FieldType := (⟨"CurveShelfModel", "nearestOf", "(IZ)I"⟩, prog_14_method_71_code, 5, (Option.some FieldType.int))
def D_X12_none : MethodName × ByteArray × Nat × Option FieldType := (⟨"CurveShelfModel", "none", "()V"⟩, prog_14_method_72_code, 2, Option.none)
def D_X12_nth : MethodName × ByteArray × Nat × Option FieldType := (⟨"CurveShelfModel", "nth", "(IIZ)J"⟩, prog_14_method_73_code, 6, (Option.some FieldType.long))
def D_X12_reads : MethodName × ByteArray × Nat × Option FieldType := (⟨"CurveShelfModel", "reads", "(II)I"⟩, prog_14_method_74_code, 7, (Option.some FieldType.int))
def D_X12_isAskable : MethodName × ByteArray × Nat × Option FieldType := (⟨"CurveShelfModel", "isAskable", "(IIIIII)Z"⟩, prog_14_method_75_code, 7, (Option.some FieldType.boolean))
def D_X12_nearest : MethodName × ByteArray × Nat × Option FieldType := (⟨"CurveShelfModel", "nearest", "(IIIIII)I"⟩, prog_14_method_76_code, 9, (Option.some FieldType.int))
def D_X12_within : MethodName × ByteArray × Nat × Option FieldType := (⟨"CurveShelfModel", "within", "(IIIIII)I"⟩, prog_14_method_77_code, 8, (Option.some FieldType.int))
def D_X12_pairs : MethodName × ByteArray × Nat × Option FieldType := (⟨"CurveShelfModel", "pairs", "(II)I"⟩, prog_14_method_78_code, 12, (Option.some FieldType.int))
def D_X12_found : MethodName × ByteArray × Nat × Option FieldType := (⟨"CurveShelfModel", "found", "(II)J"⟩, prog_14_method_79_code, 3, (Option.some FieldType.long))
def D_X12_spent : MethodName × ByteArray × Nat × Option FieldType := (⟨"CurveShelfModel", "spent", "(I)I"⟩, prog_14_method_80_code, 2, (Option.some FieldType.int))
def D_X12_among : MethodName × ByteArray × Nat × Option FieldType := (⟨"CurveShelfModel", "among", "(IIII)J"⟩, prog_14_method_81_code, 6, (Option.some FieldType.long))
def D_X12_means : MethodName × ByteArray × Nat × Option FieldType := (⟨"CurveShelfModel", "means", "(IIII)Z"⟩, prog_14_method_82_code, 11, (Option.some FieldType.boolean))
def D_X12_common : MethodName × ByteArray × Nat × Option FieldType := (⟨"CurveShelfModel", "common", "(JJ)J"⟩, prog_14_method_83_code, 10, (Option.some FieldType.long))
def D_X12_mean : MethodName × ByteArray × Nat × Option FieldType := (⟨"CurveShelfModel", "mean", "(IIIII)J"⟩, prog_14_method_84_code, 8, (Option.some FieldType.long))
def D_X12_compare : MethodName × ByteArray × Nat × Option FieldType := (⟨"CurveShelfModel", "compare", "(IIIII)I"⟩, prog_14_method_85_code, 8, (Option.some FieldType.int))
def D_X12_witness : MethodName × ByteArray × Nat × Option FieldType := (⟨"CurveShelfModel", "witness", "(IIIIII)I"⟩, prog_14_method_86_code, 11, (Option.some FieldType.int))
def D_X12_out : MethodName × ByteArray × Nat × Option FieldType := (⟨"CurveShelfModel", "out", "(I)I"⟩, prog_14_method_87_code, 2, (Option.some FieldType.int))
def D_X12_forge : MethodName × ByteArray × Nat × Option FieldType := (⟨"CurveShelfModel", "forge", "(II)I"⟩, prog_14_method_88_code, 4, (Option.some FieldType.int))
def D_X12_check : MethodName × ByteArray × Nat × Option FieldType := (⟨"CurveShelfModel", "check", "(IIIIII)I"⟩, prog_14_method_89_code, 11, (Option.some FieldType.int))
def D_X12_lay : MethodName × ByteArray × Nat × Option FieldType := (⟨"CurveShelfModel", "lay", "(IIII)Z"⟩, prog_14_method_90_code, 7, (Option.some FieldType.boolean))
def D_X12_ask : MethodName × ByteArray × Nat × Option FieldType := (⟨"CurveShelfModel", "ask", "(II)J"⟩, prog_14_method_91_code, 4, (Option.some FieldType.long))
def D_X12_image : MethodName × ByteArray × Nat × Option FieldType := (⟨"CurveShelfModel", "image", "(I)Z"⟩, prog_14_method_92_code, 3, (Option.some FieldType.boolean))
def D_X12_back : MethodName × ByteArray × Nat × Option FieldType := (⟨"CurveShelfModel", "back", "(I)Z"⟩, prog_14_method_93_code, 3, (Option.some FieldType.boolean))
def D_J6_bitCount_0f7a4 : MethodName × ByteArray × Nat × Option FieldType := (⟨"java/lang/Integer", "bitCount", "(I)I"⟩, prog_15_method_49_code, 1, (Option.some FieldType.int))
def D_J13_compare_74951 : MethodName × ByteArray × Nat × Option FieldType := (⟨"java/lang/Long", "compare", "(JJ)I"⟩, prog_16_method_42_code, 4, (Option.some FieldType.int))
def D_J7_fill_53178 : MethodName × ByteArray × Nat × Option FieldType := (⟨"java/util/Arrays", "fill", "([II)V"⟩, prog_19_method_103_code, 4, Option.none)
def D_L_law : MethodName × ByteArray × Nat × Option FieldType := (⟨"CurveShelfLaw", "law", "([I)Z"⟩, code, 4, (some .boolean))
def q_md : List (MethodName × ByteArray × Nat × Option FieldType) := [D_X0_init, D_X0_axisOf, D_X0_turned, D_X0_stateAfter, D_X0_holds, D_X0_axisByAxis, D_X0_woven, D_X1_init, D_X1_begin, D_X1_append, D_X1_offer, D_X1_weights, D_X1_copyFrom, D_X1_isBefore, D_X2_init, D_X2_on, D_X2_isAheadOf, D_X3_init, D_X3_init_, D_X3_come, D_X3_go, D_X3_indexOf, D_X3_pageOf, D_X3_startOf, D_X3_weightsOf, D_X3_leastOf, D_X3_greatestOf, D_X3_markNames, D_X3_part, D_X3_melt, D_X3_removePage, D_X4_init, D_X4_aim, D_X4_measure, D_X4_readNearest, D_X4_readWithin, D_X4_readPage, D_X4_readClosest, D_X4_comesFirst, D_X4_nextUnread, D_X4_farOf, D_X4_between, D_X4_boxGap, D_X4_distance, D_X5_init, D_X5_begin, D_X5_act, D_X5_takeBack, D_X5_copyFrom, D_X6_init, D_X6_turned, D_X6_stateAfter, D_X7_init, D_X7_begin, D_X7_append, D_X7_numbers, D_X7_meltTo, D_X7_copyFrom, D_X8_init, D_X8_setCorner, D_X8_layOnRack, D_X8_copyFrom, D_X9_init, D_X9_axisOf, D_X9_turned, D_X9_stateAfter, D_X9_bitBeforeTurn, D_X10_init, D_X10_enter, D_X10_narrow, D_X10_windowPlaces, D_X10_isInWindow, D_X10_leaf, D_X10_numberOf, D_X10_seek, D_X10_onward, D_X10_climb, D_X10_descend, D_X10_step, D_X10_meets, D_X11_init, D_X11_curve, D_X11_number, D_X11_place, D_X11_size, D_X11_gap, D_X11_canBeCurve, D_X11_curveAt, D_X11_shelf, D_X11_put, D_X11_drop, D_X11_move, D_X11_sow, D_X11_find, D_X11_at, D_X11_count, D_X11_page, D_X11_undo, D_X11_shelfAt, D_X11_drawAfter, D_X11_drawn, D_X11_takeFreeName, D_X11_low, D_X11_high, D_X11_spans, D_X11_span, D_X11_few, D_X11_beyond, D_X11_jump, D_X11_enterWindow, D_X11_gatherSpans, D_X11_points, D_X11_nearest, D_X11_within, D_X11_pairs, D_X11_found, D_X11_spent, D_X11_appendInWindow, D_X11_isWay, D_X11_aimAt, D_X11_mean, D_X11_compare, D_X11_hasMean, D_X11_spansTogether, D_X11_windowsWithBoth, D_X11_greatestDivisor, D_X11_witness, D_X11_out, D_X11_forge, D_X11_check, D_X11_firstFalsePage, D_X11_tellsFar, D_X11_firstMissedPage, D_X11_lay, D_X11_ask, D_X11_layPoint, D_X11_layPage, D_X11_layCurve, D_X11_image, D_X11_back, D_X12_init, D_X12_isCurve, D_X12_of, D_X12_kind, D_X12_axes, D_X12_has, D_X12_can, D_X12_curve, D_X12_size, D_X12_lays, D_X12_splits, D_X12_joined, D_X12_turnedLeft, D_X12_turns, D_X12_box, D_X12_narrows, D_X12_isPlace, D_X12_numberOf, D_X12_number, D_X12_placed, D_X12_place, D_X12_gap, D_X12_off, D_X12_low, D_X12_high, D_X12_isWindow, D_X12_isAsked, D_X12_next, D_X12_lowest, D_X12_spans, D_X12_span, D_X12_few, D_X12_between, D_X12_beyond, D_X12_jump, D_X12_opens, D_X12_held, D_X12_pages, D_X12_curveOf, D_X12_point, D_X12_onPage, D_X12_shelf, D_X12_keeps, D_X12_undo, D_X12_named, D_X12_find, D_X12_pageOf, D_X12_beginOf, D_X12_pageComes, D_X12_pageGoes, D_X12_comes, D_X12_goes, D_X12_put, D_X12_drop, D_X12_move, D_X12_sow, D_X12_at, D_X12_weightOf, D_X12_count, D_X12_bounds, D_X12_page, D_X12_finds, D_X12_begins, D_X12_points, D_X12_joins, D_X12_stands, D_X12_far, D_X12_outside, D_X12_boxFar, D_X12_nearestOf, D_X12_none, D_X12_nth, D_X12_reads, D_X12_isAskable, D_X12_nearest, D_X12_within, D_X12_pairs, D_X12_found, D_X12_spent, D_X12_among, D_X12_means, D_X12_common, D_X12_mean, D_X12_compare, D_X12_witness, D_X12_out, D_X12_forge, D_X12_check, D_X12_lay, D_X12_ask, D_X12_image, D_X12_back, D_J6_bitCount_0f7a4, D_J13_compare_74951, D_J7_fill_53178, D_L_law]
theorem g_X0_init : q_get q_mt 0 = some T_X0_init := rfl
theorem gd_X0_init : q_get q_md 0 = some D_X0_init := rfl
theorem g_X0_axisOf : q_get q_mt 1 = some T_X0_axisOf := rfl
theorem gd_X0_axisOf : q_get q_md 1 = some D_X0_axisOf := rfl
theorem g_X0_turned : q_get q_mt 2 = some T_X0_turned := rfl
theorem gd_X0_turned : q_get q_md 2 = some D_X0_turned := rfl
theorem g_X0_stateAfter : q_get q_mt 3 = some T_X0_stateAfter := rfl
theorem gd_X0_stateAfter : q_get q_md 3 = some D_X0_stateAfter := rfl
theorem g_X0_holds : q_get q_mt 4 = some T_X0_holds := rfl
theorem gd_X0_holds : q_get q_md 4 = some D_X0_holds := rfl
theorem g_X0_axisByAxis : q_get q_mt 5 = some T_X0_axisByAxis := rfl
theorem gd_X0_axisByAxis : q_get q_md 5 = some D_X0_axisByAxis := rfl
theorem g_X0_woven : q_get q_mt 6 = some T_X0_woven := rfl
theorem gd_X0_woven : q_get q_md 6 = some D_X0_woven := rfl
theorem g_X1_init : q_get q_mt 7 = some T_X1_init := rfl
theorem gd_X1_init : q_get q_md 7 = some D_X1_init := rfl
theorem g_X1_begin : q_get q_mt 8 = some T_X1_begin := rfl
theorem gd_X1_begin : q_get q_md 8 = some D_X1_begin := rfl
theorem g_X1_append : q_get q_mt 9 = some T_X1_append := rfl
theorem gd_X1_append : q_get q_md 9 = some D_X1_append := rfl
theorem g_X1_offer : q_get q_mt 10 = some T_X1_offer := rfl
theorem gd_X1_offer : q_get q_md 10 = some D_X1_offer := rfl
theorem g_X1_weights : q_get q_mt 11 = some T_X1_weights := rfl
theorem gd_X1_weights : q_get q_md 11 = some D_X1_weights := rfl
theorem g_X1_copyFrom : q_get q_mt 12 = some T_X1_copyFrom := rfl
theorem gd_X1_copyFrom : q_get q_md 12 = some D_X1_copyFrom := rfl
theorem g_X1_isBefore : q_get q_mt 13 = some T_X1_isBefore := rfl
theorem gd_X1_isBefore : q_get q_md 13 = some D_X1_isBefore := rfl
theorem g_X2_init : q_get q_mt 14 = some T_X2_init := rfl
theorem gd_X2_init : q_get q_md 14 = some D_X2_init := rfl
theorem g_X2_on : q_get q_mt 15 = some T_X2_on := rfl
theorem gd_X2_on : q_get q_md 15 = some D_X2_on := rfl
theorem g_X2_isAheadOf : q_get q_mt 16 = some T_X2_isAheadOf := rfl
theorem gd_X2_isAheadOf : q_get q_md 16 = some D_X2_isAheadOf := rfl
theorem g_X3_init : q_get q_mt 17 = some T_X3_init := rfl
theorem gd_X3_init : q_get q_md 17 = some D_X3_init := rfl
theorem g_X3_init_ : q_get q_mt 18 = some T_X3_init_ := rfl
theorem gd_X3_init_ : q_get q_md 18 = some D_X3_init_ := rfl
theorem g_X3_come : q_get q_mt 19 = some T_X3_come := rfl
theorem gd_X3_come : q_get q_md 19 = some D_X3_come := rfl
theorem g_X3_go : q_get q_mt 20 = some T_X3_go := rfl
theorem gd_X3_go : q_get q_md 20 = some D_X3_go := rfl
theorem g_X3_indexOf : q_get q_mt 21 = some T_X3_indexOf := rfl
theorem gd_X3_indexOf : q_get q_md 21 = some D_X3_indexOf := rfl
theorem g_X3_pageOf : q_get q_mt 22 = some T_X3_pageOf := rfl
theorem gd_X3_pageOf : q_get q_md 22 = some D_X3_pageOf := rfl
theorem g_X3_startOf : q_get q_mt 23 = some T_X3_startOf := rfl
theorem gd_X3_startOf : q_get q_md 23 = some D_X3_startOf := rfl
theorem g_X3_weightsOf : q_get q_mt 24 = some T_X3_weightsOf := rfl
theorem gd_X3_weightsOf : q_get q_md 24 = some D_X3_weightsOf := rfl
theorem g_X3_leastOf : q_get q_mt 25 = some T_X3_leastOf := rfl
theorem gd_X3_leastOf : q_get q_md 25 = some D_X3_leastOf := rfl
theorem g_X3_greatestOf : q_get q_mt 26 = some T_X3_greatestOf := rfl
theorem gd_X3_greatestOf : q_get q_md 26 = some D_X3_greatestOf := rfl
theorem g_X3_markNames : q_get q_mt 27 = some T_X3_markNames := rfl
theorem gd_X3_markNames : q_get q_md 27 = some D_X3_markNames := rfl
theorem g_X3_part : q_get q_mt 28 = some T_X3_part := rfl
theorem gd_X3_part : q_get q_md 28 = some D_X3_part := rfl
theorem g_X3_melt : q_get q_mt 29 = some T_X3_melt := rfl
theorem gd_X3_melt : q_get q_md 29 = some D_X3_melt := rfl
theorem g_X3_removePage : q_get q_mt 30 = some T_X3_removePage := rfl
theorem gd_X3_removePage : q_get q_md 30 = some D_X3_removePage := rfl
theorem g_X4_init : q_get q_mt 31 = some T_X4_init := rfl
theorem gd_X4_init : q_get q_md 31 = some D_X4_init := rfl
theorem g_X4_aim : q_get q_mt 32 = some T_X4_aim := rfl
theorem gd_X4_aim : q_get q_md 32 = some D_X4_aim := rfl
theorem g_X4_measure : q_get q_mt 33 = some T_X4_measure := rfl
theorem gd_X4_measure : q_get q_md 33 = some D_X4_measure := rfl
theorem g_X4_readNearest : q_get q_mt 34 = some T_X4_readNearest := rfl
theorem gd_X4_readNearest : q_get q_md 34 = some D_X4_readNearest := rfl
theorem g_X4_readWithin : q_get q_mt 35 = some T_X4_readWithin := rfl
theorem gd_X4_readWithin : q_get q_md 35 = some D_X4_readWithin := rfl
theorem g_X4_readPage : q_get q_mt 36 = some T_X4_readPage := rfl
theorem gd_X4_readPage : q_get q_md 36 = some D_X4_readPage := rfl
theorem g_X4_readClosest : q_get q_mt 37 = some T_X4_readClosest := rfl
theorem gd_X4_readClosest : q_get q_md 37 = some D_X4_readClosest := rfl
theorem g_X4_comesFirst : q_get q_mt 38 = some T_X4_comesFirst := rfl
theorem gd_X4_comesFirst : q_get q_md 38 = some D_X4_comesFirst := rfl
theorem g_X4_nextUnread : q_get q_mt 39 = some T_X4_nextUnread := rfl
theorem gd_X4_nextUnread : q_get q_md 39 = some D_X4_nextUnread := rfl
theorem g_X4_farOf : q_get q_mt 40 = some T_X4_farOf := rfl
theorem gd_X4_farOf : q_get q_md 40 = some D_X4_farOf := rfl
theorem g_X4_between : q_get q_mt 41 = some T_X4_between := rfl
theorem gd_X4_between : q_get q_md 41 = some D_X4_between := rfl
theorem g_X4_boxGap : q_get q_mt 42 = some T_X4_boxGap := rfl
theorem gd_X4_boxGap : q_get q_md 42 = some D_X4_boxGap := rfl
theorem g_X4_distance : q_get q_mt 43 = some T_X4_distance := rfl
theorem gd_X4_distance : q_get q_md 43 = some D_X4_distance := rfl
theorem g_X5_init : q_get q_mt 44 = some T_X5_init := rfl
theorem gd_X5_init : q_get q_md 44 = some D_X5_init := rfl
theorem g_X5_begin : q_get q_mt 45 = some T_X5_begin := rfl
theorem gd_X5_begin : q_get q_md 45 = some D_X5_begin := rfl
theorem g_X5_act : q_get q_mt 46 = some T_X5_act := rfl
theorem gd_X5_act : q_get q_md 46 = some D_X5_act := rfl
theorem g_X5_takeBack : q_get q_mt 47 = some T_X5_takeBack := rfl
theorem gd_X5_takeBack : q_get q_md 47 = some D_X5_takeBack := rfl
theorem g_X5_copyFrom : q_get q_mt 48 = some T_X5_copyFrom := rfl
theorem gd_X5_copyFrom : q_get q_md 48 = some D_X5_copyFrom := rfl
theorem g_X6_init : q_get q_mt 49 = some T_X6_init := rfl
theorem gd_X6_init : q_get q_md 49 = some D_X6_init := rfl
theorem g_X6_turned : q_get q_mt 50 = some T_X6_turned := rfl
theorem gd_X6_turned : q_get q_md 50 = some D_X6_turned := rfl
theorem g_X6_stateAfter : q_get q_mt 51 = some T_X6_stateAfter := rfl
theorem gd_X6_stateAfter : q_get q_md 51 = some D_X6_stateAfter := rfl
theorem g_X7_init : q_get q_mt 52 = some T_X7_init := rfl
theorem gd_X7_init : q_get q_md 52 = some D_X7_init := rfl
theorem g_X7_begin : q_get q_mt 53 = some T_X7_begin := rfl
theorem gd_X7_begin : q_get q_md 53 = some D_X7_begin := rfl
theorem g_X7_append : q_get q_mt 54 = some T_X7_append := rfl
theorem gd_X7_append : q_get q_md 54 = some D_X7_append := rfl
theorem g_X7_numbers : q_get q_mt 55 = some T_X7_numbers := rfl
theorem gd_X7_numbers : q_get q_md 55 = some D_X7_numbers := rfl
theorem g_X7_meltTo : q_get q_mt 56 = some T_X7_meltTo := rfl
theorem gd_X7_meltTo : q_get q_md 56 = some D_X7_meltTo := rfl
theorem g_X7_copyFrom : q_get q_mt 57 = some T_X7_copyFrom := rfl
theorem gd_X7_copyFrom : q_get q_md 57 = some D_X7_copyFrom := rfl
theorem g_X8_init : q_get q_mt 58 = some T_X8_init := rfl
theorem gd_X8_init : q_get q_md 58 = some D_X8_init := rfl
theorem g_X8_setCorner : q_get q_mt 59 = some T_X8_setCorner := rfl
theorem gd_X8_setCorner : q_get q_md 59 = some D_X8_setCorner := rfl
theorem g_X8_layOnRack : q_get q_mt 60 = some T_X8_layOnRack := rfl
theorem gd_X8_layOnRack : q_get q_md 60 = some D_X8_layOnRack := rfl
theorem g_X8_copyFrom : q_get q_mt 61 = some T_X8_copyFrom := rfl
theorem gd_X8_copyFrom : q_get q_md 61 = some D_X8_copyFrom := rfl
theorem g_X9_init : q_get q_mt 62 = some T_X9_init := rfl
theorem gd_X9_init : q_get q_md 62 = some D_X9_init := rfl
theorem g_X9_axisOf : q_get q_mt 63 = some T_X9_axisOf := rfl
theorem gd_X9_axisOf : q_get q_md 63 = some D_X9_axisOf := rfl
theorem g_X9_turned : q_get q_mt 64 = some T_X9_turned := rfl
theorem gd_X9_turned : q_get q_md 64 = some D_X9_turned := rfl
theorem g_X9_stateAfter : q_get q_mt 65 = some T_X9_stateAfter := rfl
theorem gd_X9_stateAfter : q_get q_md 65 = some D_X9_stateAfter := rfl
theorem g_X9_bitBeforeTurn : q_get q_mt 66 = some T_X9_bitBeforeTurn := rfl
theorem gd_X9_bitBeforeTurn : q_get q_md 66 = some D_X9_bitBeforeTurn := rfl
theorem g_X10_init : q_get q_mt 67 = some T_X10_init := rfl
theorem gd_X10_init : q_get q_md 67 = some D_X10_init := rfl
theorem g_X10_enter : q_get q_mt 68 = some T_X10_enter := rfl
theorem gd_X10_enter : q_get q_md 68 = some D_X10_enter := rfl
theorem g_X10_narrow : q_get q_mt 69 = some T_X10_narrow := rfl
theorem gd_X10_narrow : q_get q_md 69 = some D_X10_narrow := rfl
theorem g_X10_windowPlaces : q_get q_mt 70 = some T_X10_windowPlaces := rfl
theorem gd_X10_windowPlaces : q_get q_md 70 = some D_X10_windowPlaces := rfl
theorem g_X10_isInWindow : q_get q_mt 71 = some T_X10_isInWindow := rfl
theorem gd_X10_isInWindow : q_get q_md 71 = some D_X10_isInWindow := rfl
theorem g_X10_leaf : q_get q_mt 72 = some T_X10_leaf := rfl
theorem gd_X10_leaf : q_get q_md 72 = some D_X10_leaf := rfl
theorem g_X10_numberOf : q_get q_mt 73 = some T_X10_numberOf := rfl
theorem gd_X10_numberOf : q_get q_md 73 = some D_X10_numberOf := rfl
theorem g_X10_seek : q_get q_mt 74 = some T_X10_seek := rfl
theorem gd_X10_seek : q_get q_md 74 = some D_X10_seek := rfl
theorem g_X10_onward : q_get q_mt 75 = some T_X10_onward := rfl
theorem gd_X10_onward : q_get q_md 75 = some D_X10_onward := rfl
theorem g_X10_climb : q_get q_mt 76 = some T_X10_climb := rfl
theorem gd_X10_climb : q_get q_md 76 = some D_X10_climb := rfl
theorem g_X10_descend : q_get q_mt 77 = some T_X10_descend := rfl
theorem gd_X10_descend : q_get q_md 77 = some D_X10_descend := rfl
theorem g_X10_step : q_get q_mt 78 = some T_X10_step := rfl
theorem gd_X10_step : q_get q_md 78 = some D_X10_step := rfl
theorem g_X10_meets : q_get q_mt 79 = some T_X10_meets := rfl
theorem gd_X10_meets : q_get q_md 79 = some D_X10_meets := rfl
theorem g_X11_init : q_get q_mt 80 = some T_X11_init := rfl
theorem gd_X11_init : q_get q_md 80 = some D_X11_init := rfl
theorem g_X11_curve : q_get q_mt 81 = some T_X11_curve := rfl
theorem gd_X11_curve : q_get q_md 81 = some D_X11_curve := rfl
theorem g_X11_number : q_get q_mt 82 = some T_X11_number := rfl
theorem gd_X11_number : q_get q_md 82 = some D_X11_number := rfl
theorem g_X11_place : q_get q_mt 83 = some T_X11_place := rfl
theorem gd_X11_place : q_get q_md 83 = some D_X11_place := rfl
theorem g_X11_size : q_get q_mt 84 = some T_X11_size := rfl
theorem gd_X11_size : q_get q_md 84 = some D_X11_size := rfl
theorem g_X11_gap : q_get q_mt 85 = some T_X11_gap := rfl
theorem gd_X11_gap : q_get q_md 85 = some D_X11_gap := rfl
theorem g_X11_canBeCurve : q_get q_mt 86 = some T_X11_canBeCurve := rfl
theorem gd_X11_canBeCurve : q_get q_md 86 = some D_X11_canBeCurve := rfl
theorem g_X11_curveAt : q_get q_mt 87 = some T_X11_curveAt := rfl
theorem gd_X11_curveAt : q_get q_md 87 = some D_X11_curveAt := rfl
theorem g_X11_shelf : q_get q_mt 88 = some T_X11_shelf := rfl
theorem gd_X11_shelf : q_get q_md 88 = some D_X11_shelf := rfl
theorem g_X11_put : q_get q_mt 89 = some T_X11_put := rfl
theorem gd_X11_put : q_get q_md 89 = some D_X11_put := rfl
theorem g_X11_drop : q_get q_mt 90 = some T_X11_drop := rfl
theorem gd_X11_drop : q_get q_md 90 = some D_X11_drop := rfl
theorem g_X11_move : q_get q_mt 91 = some T_X11_move := rfl
theorem gd_X11_move : q_get q_md 91 = some D_X11_move := rfl
theorem g_X11_sow : q_get q_mt 92 = some T_X11_sow := rfl
theorem gd_X11_sow : q_get q_md 92 = some D_X11_sow := rfl
theorem g_X11_find : q_get q_mt 93 = some T_X11_find := rfl
theorem gd_X11_find : q_get q_md 93 = some D_X11_find := rfl
theorem g_X11_at : q_get q_mt 94 = some T_X11_at := rfl
theorem gd_X11_at : q_get q_md 94 = some D_X11_at := rfl
theorem g_X11_count : q_get q_mt 95 = some T_X11_count := rfl
theorem gd_X11_count : q_get q_md 95 = some D_X11_count := rfl
theorem g_X11_page : q_get q_mt 96 = some T_X11_page := rfl
theorem gd_X11_page : q_get q_md 96 = some D_X11_page := rfl
theorem g_X11_undo : q_get q_mt 97 = some T_X11_undo := rfl
theorem gd_X11_undo : q_get q_md 97 = some D_X11_undo := rfl
theorem g_X11_shelfAt : q_get q_mt 98 = some T_X11_shelfAt := rfl
theorem gd_X11_shelfAt : q_get q_md 98 = some D_X11_shelfAt := rfl
theorem g_X11_drawAfter : q_get q_mt 99 = some T_X11_drawAfter := rfl
theorem gd_X11_drawAfter : q_get q_md 99 = some D_X11_drawAfter := rfl
theorem g_X11_drawn : q_get q_mt 100 = some T_X11_drawn := rfl
theorem gd_X11_drawn : q_get q_md 100 = some D_X11_drawn := rfl
theorem g_X11_takeFreeName : q_get q_mt 101 = some T_X11_takeFreeName := rfl
theorem gd_X11_takeFreeName : q_get q_md 101 = some D_X11_takeFreeName := rfl
theorem g_X11_low : q_get q_mt 102 = some T_X11_low := rfl
theorem gd_X11_low : q_get q_md 102 = some D_X11_low := rfl
theorem g_X11_high : q_get q_mt 103 = some T_X11_high := rfl
theorem gd_X11_high : q_get q_md 103 = some D_X11_high := rfl
theorem g_X11_spans : q_get q_mt 104 = some T_X11_spans := rfl
theorem gd_X11_spans : q_get q_md 104 = some D_X11_spans := rfl
theorem g_X11_span : q_get q_mt 105 = some T_X11_span := rfl
theorem gd_X11_span : q_get q_md 105 = some D_X11_span := rfl
theorem g_X11_few : q_get q_mt 106 = some T_X11_few := rfl
theorem gd_X11_few : q_get q_md 106 = some D_X11_few := rfl
theorem g_X11_beyond : q_get q_mt 107 = some T_X11_beyond := rfl
theorem gd_X11_beyond : q_get q_md 107 = some D_X11_beyond := rfl
theorem g_X11_jump : q_get q_mt 108 = some T_X11_jump := rfl
theorem gd_X11_jump : q_get q_md 108 = some D_X11_jump := rfl
theorem g_X11_enterWindow : q_get q_mt 109 = some T_X11_enterWindow := rfl
theorem gd_X11_enterWindow : q_get q_md 109 = some D_X11_enterWindow := rfl
theorem g_X11_gatherSpans : q_get q_mt 110 = some T_X11_gatherSpans := rfl
theorem gd_X11_gatherSpans : q_get q_md 110 = some D_X11_gatherSpans := rfl
theorem g_X11_points : q_get q_mt 111 = some T_X11_points := rfl
theorem gd_X11_points : q_get q_md 111 = some D_X11_points := rfl
theorem g_X11_nearest : q_get q_mt 112 = some T_X11_nearest := rfl
theorem gd_X11_nearest : q_get q_md 112 = some D_X11_nearest := rfl
theorem g_X11_within : q_get q_mt 113 = some T_X11_within := rfl
theorem gd_X11_within : q_get q_md 113 = some D_X11_within := rfl
theorem g_X11_pairs : q_get q_mt 114 = some T_X11_pairs := rfl
theorem gd_X11_pairs : q_get q_md 114 = some D_X11_pairs := rfl
theorem g_X11_found : q_get q_mt 115 = some T_X11_found := rfl
theorem gd_X11_found : q_get q_md 115 = some D_X11_found := rfl
theorem g_X11_spent : q_get q_mt 116 = some T_X11_spent := rfl
theorem gd_X11_spent : q_get q_md 116 = some D_X11_spent := rfl
theorem g_X11_appendInWindow : q_get q_mt 117 = some T_X11_appendInWindow := rfl
theorem gd_X11_appendInWindow : q_get q_md 117 = some D_X11_appendInWindow := rfl
theorem g_X11_isWay : q_get q_mt 118 = some T_X11_isWay := rfl
theorem gd_X11_isWay : q_get q_md 118 = some D_X11_isWay := rfl
theorem g_X11_aimAt : q_get q_mt 119 = some T_X11_aimAt := rfl
theorem gd_X11_aimAt : q_get q_md 119 = some D_X11_aimAt := rfl
theorem g_X11_mean : q_get q_mt 120 = some T_X11_mean := rfl
theorem gd_X11_mean : q_get q_md 120 = some D_X11_mean := rfl
theorem g_X11_compare : q_get q_mt 121 = some T_X11_compare := rfl
theorem gd_X11_compare : q_get q_md 121 = some D_X11_compare := rfl
theorem g_X11_hasMean : q_get q_mt 122 = some T_X11_hasMean := rfl
theorem gd_X11_hasMean : q_get q_md 122 = some D_X11_hasMean := rfl
theorem g_X11_spansTogether : q_get q_mt 123 = some T_X11_spansTogether := rfl
theorem gd_X11_spansTogether : q_get q_md 123 = some D_X11_spansTogether := rfl
theorem g_X11_windowsWithBoth : q_get q_mt 124 = some T_X11_windowsWithBoth := rfl
theorem gd_X11_windowsWithBoth : q_get q_md 124 = some D_X11_windowsWithBoth := rfl
theorem g_X11_greatestDivisor : q_get q_mt 125 = some T_X11_greatestDivisor := rfl
theorem gd_X11_greatestDivisor : q_get q_md 125 = some D_X11_greatestDivisor := rfl
theorem g_X11_witness : q_get q_mt 126 = some T_X11_witness := rfl
theorem gd_X11_witness : q_get q_md 126 = some D_X11_witness := rfl
theorem g_X11_out : q_get q_mt 127 = some T_X11_out := rfl
theorem gd_X11_out : q_get q_md 127 = some D_X11_out := rfl
theorem g_X11_forge : q_get q_mt 128 = some T_X11_forge := rfl
theorem gd_X11_forge : q_get q_md 128 = some D_X11_forge := rfl
theorem g_X11_check : q_get q_mt 129 = some T_X11_check := rfl
theorem gd_X11_check : q_get q_md 129 = some D_X11_check := rfl
theorem g_X11_firstFalsePage : q_get q_mt 130 = some T_X11_firstFalsePage := rfl
theorem gd_X11_firstFalsePage : q_get q_md 130 = some D_X11_firstFalsePage := rfl
theorem g_X11_tellsFar : q_get q_mt 131 = some T_X11_tellsFar := rfl
theorem gd_X11_tellsFar : q_get q_md 131 = some D_X11_tellsFar := rfl
theorem g_X11_firstMissedPage : q_get q_mt 132 = some T_X11_firstMissedPage := rfl
theorem gd_X11_firstMissedPage : q_get q_md 132 = some D_X11_firstMissedPage := rfl
theorem g_X11_lay : q_get q_mt 133 = some T_X11_lay := rfl
theorem gd_X11_lay : q_get q_md 133 = some D_X11_lay := rfl
theorem g_X11_ask : q_get q_mt 134 = some T_X11_ask := rfl
theorem gd_X11_ask : q_get q_md 134 = some D_X11_ask := rfl
theorem g_X11_layPoint : q_get q_mt 135 = some T_X11_layPoint := rfl
theorem gd_X11_layPoint : q_get q_md 135 = some D_X11_layPoint := rfl
theorem g_X11_layPage : q_get q_mt 136 = some T_X11_layPage := rfl
theorem gd_X11_layPage : q_get q_md 136 = some D_X11_layPage := rfl
theorem g_X11_layCurve : q_get q_mt 137 = some T_X11_layCurve := rfl
theorem gd_X11_layCurve : q_get q_md 137 = some D_X11_layCurve := rfl
theorem g_X11_image : q_get q_mt 138 = some T_X11_image := rfl
theorem gd_X11_image : q_get q_md 138 = some D_X11_image := rfl
theorem g_X11_back : q_get q_mt 139 = some T_X11_back := rfl
theorem gd_X11_back : q_get q_md 139 = some D_X11_back := rfl
theorem g_X12_init : q_get q_mt 140 = some T_X12_init := rfl
theorem gd_X12_init : q_get q_md 140 = some D_X12_init := rfl
theorem g_X12_isCurve : q_get q_mt 141 = some T_X12_isCurve := rfl
theorem gd_X12_isCurve : q_get q_md 141 = some D_X12_isCurve := rfl
theorem g_X12_of : q_get q_mt 142 = some T_X12_of := rfl
theorem gd_X12_of : q_get q_md 142 = some D_X12_of := rfl
theorem g_X12_kind : q_get q_mt 143 = some T_X12_kind := rfl
theorem gd_X12_kind : q_get q_md 143 = some D_X12_kind := rfl
theorem g_X12_axes : q_get q_mt 144 = some T_X12_axes := rfl
theorem gd_X12_axes : q_get q_md 144 = some D_X12_axes := rfl
theorem g_X12_has : q_get q_mt 145 = some T_X12_has := rfl
theorem gd_X12_has : q_get q_md 145 = some D_X12_has := rfl
theorem g_X12_can : q_get q_mt 146 = some T_X12_can := rfl
theorem gd_X12_can : q_get q_md 146 = some D_X12_can := rfl
theorem g_X12_curve : q_get q_mt 147 = some T_X12_curve := rfl
theorem gd_X12_curve : q_get q_md 147 = some D_X12_curve := rfl
theorem g_X12_size : q_get q_mt 148 = some T_X12_size := rfl
theorem gd_X12_size : q_get q_md 148 = some D_X12_size := rfl
theorem g_X12_lays : q_get q_mt 149 = some T_X12_lays := rfl
theorem gd_X12_lays : q_get q_md 149 = some D_X12_lays := rfl
theorem g_X12_splits : q_get q_mt 150 = some T_X12_splits := rfl
theorem gd_X12_splits : q_get q_md 150 = some D_X12_splits := rfl
theorem g_X12_joined : q_get q_mt 151 = some T_X12_joined := rfl
theorem gd_X12_joined : q_get q_md 151 = some D_X12_joined := rfl
theorem g_X12_turnedLeft : q_get q_mt 152 = some T_X12_turnedLeft := rfl
theorem gd_X12_turnedLeft : q_get q_md 152 = some D_X12_turnedLeft := rfl
theorem g_X12_turns : q_get q_mt 153 = some T_X12_turns := rfl
theorem gd_X12_turns : q_get q_md 153 = some D_X12_turns := rfl
theorem g_X12_box : q_get q_mt 154 = some T_X12_box := rfl
theorem gd_X12_box : q_get q_md 154 = some D_X12_box := rfl
theorem g_X12_narrows : q_get q_mt 155 = some T_X12_narrows := rfl
theorem gd_X12_narrows : q_get q_md 155 = some D_X12_narrows := rfl
theorem g_X12_isPlace : q_get q_mt 156 = some T_X12_isPlace := rfl
theorem gd_X12_isPlace : q_get q_md 156 = some D_X12_isPlace := rfl
theorem g_X12_numberOf : q_get q_mt 157 = some T_X12_numberOf := rfl
theorem gd_X12_numberOf : q_get q_md 157 = some D_X12_numberOf := rfl
theorem g_X12_number : q_get q_mt 158 = some T_X12_number := rfl
theorem gd_X12_number : q_get q_md 158 = some D_X12_number := rfl
theorem g_X12_placed : q_get q_mt 159 = some T_X12_placed := rfl
theorem gd_X12_placed : q_get q_md 159 = some D_X12_placed := rfl
theorem g_X12_place : q_get q_mt 160 = some T_X12_place := rfl
theorem gd_X12_place : q_get q_md 160 = some D_X12_place := rfl
theorem g_X12_gap : q_get q_mt 161 = some T_X12_gap := rfl
theorem gd_X12_gap : q_get q_md 161 = some D_X12_gap := rfl
theorem g_X12_off : q_get q_mt 162 = some T_X12_off := rfl
theorem gd_X12_off : q_get q_md 162 = some D_X12_off := rfl
theorem g_X12_low : q_get q_mt 163 = some T_X12_low := rfl
theorem gd_X12_low : q_get q_md 163 = some D_X12_low := rfl
theorem g_X12_high : q_get q_mt 164 = some T_X12_high := rfl
theorem gd_X12_high : q_get q_md 164 = some D_X12_high := rfl
theorem g_X12_isWindow : q_get q_mt 165 = some T_X12_isWindow := rfl
theorem gd_X12_isWindow : q_get q_md 165 = some D_X12_isWindow := rfl
theorem g_X12_isAsked : q_get q_mt 166 = some T_X12_isAsked := rfl
theorem gd_X12_isAsked : q_get q_md 166 = some D_X12_isAsked := rfl
theorem g_X12_next : q_get q_mt 167 = some T_X12_next := rfl
theorem gd_X12_next : q_get q_md 167 = some D_X12_next := rfl
theorem g_X12_lowest : q_get q_mt 168 = some T_X12_lowest := rfl
theorem gd_X12_lowest : q_get q_md 168 = some D_X12_lowest := rfl
theorem g_X12_spans : q_get q_mt 169 = some T_X12_spans := rfl
theorem gd_X12_spans : q_get q_md 169 = some D_X12_spans := rfl
theorem g_X12_span : q_get q_mt 170 = some T_X12_span := rfl
theorem gd_X12_span : q_get q_md 170 = some D_X12_span := rfl
theorem g_X12_few : q_get q_mt 171 = some T_X12_few := rfl
theorem gd_X12_few : q_get q_md 171 = some D_X12_few := rfl
theorem g_X12_between : q_get q_mt 172 = some T_X12_between := rfl
theorem gd_X12_between : q_get q_md 172 = some D_X12_between := rfl
theorem g_X12_beyond : q_get q_mt 173 = some T_X12_beyond := rfl
theorem gd_X12_beyond : q_get q_md 173 = some D_X12_beyond := rfl
theorem g_X12_jump : q_get q_mt 174 = some T_X12_jump := rfl
theorem gd_X12_jump : q_get q_md 174 = some D_X12_jump := rfl
theorem g_X12_opens : q_get q_mt 175 = some T_X12_opens := rfl
theorem gd_X12_opens : q_get q_md 175 = some D_X12_opens := rfl
theorem g_X12_held : q_get q_mt 176 = some T_X12_held := rfl
theorem gd_X12_held : q_get q_md 176 = some D_X12_held := rfl
theorem g_X12_pages : q_get q_mt 177 = some T_X12_pages := rfl
theorem gd_X12_pages : q_get q_md 177 = some D_X12_pages := rfl
theorem g_X12_curveOf : q_get q_mt 178 = some T_X12_curveOf := rfl
theorem gd_X12_curveOf : q_get q_md 178 = some D_X12_curveOf := rfl
theorem g_X12_point : q_get q_mt 179 = some T_X12_point := rfl
theorem gd_X12_point : q_get q_md 179 = some D_X12_point := rfl
theorem g_X12_onPage : q_get q_mt 180 = some T_X12_onPage := rfl
theorem gd_X12_onPage : q_get q_md 180 = some D_X12_onPage := rfl
theorem g_X12_shelf : q_get q_mt 181 = some T_X12_shelf := rfl
theorem gd_X12_shelf : q_get q_md 181 = some D_X12_shelf := rfl
theorem g_X12_keeps : q_get q_mt 182 = some T_X12_keeps := rfl
theorem gd_X12_keeps : q_get q_md 182 = some D_X12_keeps := rfl
theorem g_X12_undo : q_get q_mt 183 = some T_X12_undo := rfl
theorem gd_X12_undo : q_get q_md 183 = some D_X12_undo := rfl
theorem g_X12_named : q_get q_mt 184 = some T_X12_named := rfl
theorem gd_X12_named : q_get q_md 184 = some D_X12_named := rfl
theorem g_X12_find : q_get q_mt 185 = some T_X12_find := rfl
theorem gd_X12_find : q_get q_md 185 = some D_X12_find := rfl
theorem g_X12_pageOf : q_get q_mt 186 = some T_X12_pageOf := rfl
theorem gd_X12_pageOf : q_get q_md 186 = some D_X12_pageOf := rfl
theorem g_X12_beginOf : q_get q_mt 187 = some T_X12_beginOf := rfl
theorem gd_X12_beginOf : q_get q_md 187 = some D_X12_beginOf := rfl
theorem g_X12_pageComes : q_get q_mt 188 = some T_X12_pageComes := rfl
theorem gd_X12_pageComes : q_get q_md 188 = some D_X12_pageComes := rfl
theorem g_X12_pageGoes : q_get q_mt 189 = some T_X12_pageGoes := rfl
theorem gd_X12_pageGoes : q_get q_md 189 = some D_X12_pageGoes := rfl
theorem g_X12_comes : q_get q_mt 190 = some T_X12_comes := rfl
theorem gd_X12_comes : q_get q_md 190 = some D_X12_comes := rfl
theorem g_X12_goes : q_get q_mt 191 = some T_X12_goes := rfl
theorem gd_X12_goes : q_get q_md 191 = some D_X12_goes := rfl
theorem g_X12_put : q_get q_mt 192 = some T_X12_put := rfl
theorem gd_X12_put : q_get q_md 192 = some D_X12_put := rfl
theorem g_X12_drop : q_get q_mt 193 = some T_X12_drop := rfl
theorem gd_X12_drop : q_get q_md 193 = some D_X12_drop := rfl
theorem g_X12_move : q_get q_mt 194 = some T_X12_move := rfl
theorem gd_X12_move : q_get q_md 194 = some D_X12_move := rfl
theorem g_X12_sow : q_get q_mt 195 = some T_X12_sow := rfl
theorem gd_X12_sow : q_get q_md 195 = some D_X12_sow := rfl
theorem g_X12_at : q_get q_mt 196 = some T_X12_at := rfl
theorem gd_X12_at : q_get q_md 196 = some D_X12_at := rfl
theorem g_X12_weightOf : q_get q_mt 197 = some T_X12_weightOf := rfl
theorem gd_X12_weightOf : q_get q_md 197 = some D_X12_weightOf := rfl
theorem g_X12_count : q_get q_mt 198 = some T_X12_count := rfl
theorem gd_X12_count : q_get q_md 198 = some D_X12_count := rfl
theorem g_X12_bounds : q_get q_mt 199 = some T_X12_bounds := rfl
theorem gd_X12_bounds : q_get q_md 199 = some D_X12_bounds := rfl
theorem g_X12_page : q_get q_mt 200 = some T_X12_page := rfl
theorem gd_X12_page : q_get q_md 200 = some D_X12_page := rfl
theorem g_X12_finds : q_get q_mt 201 = some T_X12_finds := rfl
theorem gd_X12_finds : q_get q_md 201 = some D_X12_finds := rfl
theorem g_X12_begins : q_get q_mt 202 = some T_X12_begins := rfl
theorem gd_X12_begins : q_get q_md 202 = some D_X12_begins := rfl
theorem g_X12_points : q_get q_mt 203 = some T_X12_points := rfl
theorem gd_X12_points : q_get q_md 203 = some D_X12_points := rfl
theorem g_X12_joins : q_get q_mt 204 = some T_X12_joins := rfl
theorem gd_X12_joins : q_get q_md 204 = some D_X12_joins := rfl
theorem g_X12_stands : q_get q_mt 205 = some T_X12_stands := rfl
theorem gd_X12_stands : q_get q_md 205 = some D_X12_stands := rfl
theorem g_X12_far : q_get q_mt 206 = some T_X12_far := rfl
theorem gd_X12_far : q_get q_md 206 = some D_X12_far := rfl
theorem g_X12_outside : q_get q_mt 207 = some T_X12_outside := rfl
theorem gd_X12_outside : q_get q_md 207 = some D_X12_outside := rfl
theorem g_X12_boxFar : q_get q_mt 208 = some T_X12_boxFar := rfl
theorem gd_X12_boxFar : q_get q_md 208 = some D_X12_boxFar := rfl
theorem g_X12_nearestOf : q_get q_mt 209 = some T_X12_nearestOf := rfl
theorem gd_X12_nearestOf : q_get q_md 209 = some D_X12_nearestOf := rfl
theorem g_X12_none : q_get q_mt 210 = some T_X12_none := rfl
theorem gd_X12_none : q_get q_md 210 = some D_X12_none := rfl
theorem g_X12_nth : q_get q_mt 211 = some T_X12_nth := rfl
theorem gd_X12_nth : q_get q_md 211 = some D_X12_nth := rfl
theorem g_X12_reads : q_get q_mt 212 = some T_X12_reads := rfl
theorem gd_X12_reads : q_get q_md 212 = some D_X12_reads := rfl
theorem g_X12_isAskable : q_get q_mt 213 = some T_X12_isAskable := rfl
theorem gd_X12_isAskable : q_get q_md 213 = some D_X12_isAskable := rfl
theorem g_X12_nearest : q_get q_mt 214 = some T_X12_nearest := rfl
theorem gd_X12_nearest : q_get q_md 214 = some D_X12_nearest := rfl
theorem g_X12_within : q_get q_mt 215 = some T_X12_within := rfl
theorem gd_X12_within : q_get q_md 215 = some D_X12_within := rfl
theorem g_X12_pairs : q_get q_mt 216 = some T_X12_pairs := rfl
theorem gd_X12_pairs : q_get q_md 216 = some D_X12_pairs := rfl
theorem g_X12_found : q_get q_mt 217 = some T_X12_found := rfl
theorem gd_X12_found : q_get q_md 217 = some D_X12_found := rfl
theorem g_X12_spent : q_get q_mt 218 = some T_X12_spent := rfl
theorem gd_X12_spent : q_get q_md 218 = some D_X12_spent := rfl
theorem g_X12_among : q_get q_mt 219 = some T_X12_among := rfl
theorem gd_X12_among : q_get q_md 219 = some D_X12_among := rfl
theorem g_X12_means : q_get q_mt 220 = some T_X12_means := rfl
theorem gd_X12_means : q_get q_md 220 = some D_X12_means := rfl
theorem g_X12_common : q_get q_mt 221 = some T_X12_common := rfl
theorem gd_X12_common : q_get q_md 221 = some D_X12_common := rfl
theorem g_X12_mean : q_get q_mt 222 = some T_X12_mean := rfl
theorem gd_X12_mean : q_get q_md 222 = some D_X12_mean := rfl
theorem g_X12_compare : q_get q_mt 223 = some T_X12_compare := rfl
theorem gd_X12_compare : q_get q_md 223 = some D_X12_compare := rfl
theorem g_X12_witness : q_get q_mt 224 = some T_X12_witness := rfl
theorem gd_X12_witness : q_get q_md 224 = some D_X12_witness := rfl
theorem g_X12_out : q_get q_mt 225 = some T_X12_out := rfl
theorem gd_X12_out : q_get q_md 225 = some D_X12_out := rfl
theorem g_X12_forge : q_get q_mt 226 = some T_X12_forge := rfl
theorem gd_X12_forge : q_get q_md 226 = some D_X12_forge := rfl
theorem g_X12_check : q_get q_mt 227 = some T_X12_check := rfl
theorem gd_X12_check : q_get q_md 227 = some D_X12_check := rfl
theorem g_X12_lay : q_get q_mt 228 = some T_X12_lay := rfl
theorem gd_X12_lay : q_get q_md 228 = some D_X12_lay := rfl
theorem g_X12_ask : q_get q_mt 229 = some T_X12_ask := rfl
theorem gd_X12_ask : q_get q_md 229 = some D_X12_ask := rfl
theorem g_X12_image : q_get q_mt 230 = some T_X12_image := rfl
theorem gd_X12_image : q_get q_md 230 = some D_X12_image := rfl
theorem g_X12_back : q_get q_mt 231 = some T_X12_back := rfl
theorem gd_X12_back : q_get q_md 231 = some D_X12_back := rfl
theorem g_J6_bitCount_0f7a4 : q_get q_mt 232 = some T_J6_bitCount_0f7a4 := rfl
theorem gd_J6_bitCount_0f7a4 : q_get q_md 232 = some D_J6_bitCount_0f7a4 := rfl
theorem g_J13_compare_74951 : q_get q_mt 233 = some T_J13_compare_74951 := rfl
theorem gd_J13_compare_74951 : q_get q_md 233 = some D_J13_compare_74951 := rfl
theorem g_J7_fill_53178 : q_get q_mt 234 = some T_J7_fill_53178 := rfl
theorem gd_J7_fill_53178 : q_get q_md 234 = some D_J7_fill_53178 := rfl
theorem g_L_law : q_get q_mt 235 = some T_L_law := rfl
theorem gd_L_law : q_get q_md 235 = some D_L_law := rfl
def q_fk : List (Nat × Nat × Nat) := [(0, 9, 33), (0, 15, 1), (0, 19, 11), (0, 22, 21), (0, 32, 43), (0, 35, 52), (1, 7, 1021), (1, 13, 1031), (1, 18, 1003), (1, 22, 1013), (1, 36, 2051), (1, 39, 2001), (2, 7, 2001), (2, 13, 2012), (2, 17, 2021), (2, 20, 2031), (2, 23, 2041), (2, 26, 2051), (3, 9, 3021), (3, 15, 3031), (3, 20, 3003), (3, 24, 3013), (3, 46, 2001), (3, 49, 2051), (4, 9, 4003), (4, 15, 4013), (4, 19, 4021), (4, 23, 4031), (4, 26, 4041), (4, 29, 4051), (4, 32, 3031), (4, 37, 3013), (4, 62, 1021), (4, 65, 1013), (4, 72, 1031), (4, 78, 3003), (4, 94, 3021), (4, 95, 2021), (4, 107, 2001), (4, 118, 2031), (4, 119, 2041), (5, 9, 5003), (5, 15, 5013), (5, 21, 5023), (5, 25, 5031), (6, 7, 6043), (7, 9, 7003), (7, 15, 7013), (7, 18, 7021), (7, 22, 7032), (8, 11, 8003), (8, 17, 8011), (8, 23, 8023), (8, 27, 8033), (8, 34, 8043), (8, 43, 8053), (8, 47, 8063), (8, 50, 8073), (8, 54, 8083), (9, 7, 9011), (10, 11, 10003), (10, 16, 10013), (10, 19, 10023), (10, 23, 10033), (10, 27, 10043), (10, 30, 10053), (10, 33, 10063), (10, 36, 10073), (10, 40, 10081), (10, 44, 43), (10, 49, 33), (10, 66, 21), (10, 79, 52), (11, 12, 11003), (11, 16, 11013), (11, 20, 11023), (11, 24, 11031), (11, 31, 11043), (11, 38, 11053), (11, 45, 11063), (11, 54, 11073), (11, 58, 11083), (11, 62, 8011), (11, 82, 8003), (11, 100, 52), (11, 129, 8023), (11, 142, 5003), (11, 146, 5013), (11, 155, 3021), (11, 177, 3003), (11, 181, 2051), (11, 191, 33), (11, 198, 11), (11, 205, 2001), (11, 208, 2021), (11, 211, 2031), (11, 214, 2041), (11, 220, 3031), (11, 226, 1), (11, 229, 5031), (11, 235, 3013), (11, 260, 8043), (11, 267, 7021), (11, 268, 7003), (11, 272, 7013), (11, 282, 7032), (11, 288, 8033), (11, 305, 8053), (11, 310, 2012), (11, 313, 1031), (11, 320, 1021), (11, 340, 1003), (11, 343, 1013), (11, 382, 4013), (11, 385, 4003), (11, 423, 8063), (11, 430, 8073), (11, 433, 8083), (12, 8, 12003), (12, 15, 12013), (12, 18, 12023), (12, 22, 12031), (12, 26, 12041), (12, 29, 12053), (12, 33, 12063), (12, 36, 12073), (12, 39, 12083), (12, 42, 12093), (12, 45, 12101), (12, 48, 12111), (12, 51, 12123), (12, 54, 12131), (12, 57, 12143), (12, 60, 12153), (12, 63, 12163), (12, 66, 12172), (12, 70, 12182), (12, 73, 12193), (12, 77, 12201)]
def q_ck : List (Nat × Nat × Nat) := [(0, 3, 0), (0, 25, 1), (0, 29, 2), (0, 39, 3), (1, 1, 0), (1, 26, 4), (1, 32, 5), (2, 1, 0), (3, 3, 0), (3, 28, 6), (3, 32, 7), (3, 36, 8), (3, 40, 9), (3, 43, 10), (3, 52, 11), (3, 55, 4), (3, 61, 3), (4, 3, 0), (4, 41, 12), (4, 45, 13), (4, 49, 14), (4, 53, 15), (4, 58, 16), (4, 68, 17), (4, 75, 18), (4, 82, 19), (4, 86, 20), (4, 98, 21), (4, 103, 22), (4, 110, 23), (4, 114, 24), (4, 120, 25), (4, 124, 26), (4, 127, 3), (4, 131, 27), (5, 3, 0), (5, 29, 28), (6, 1, 29), (6, 13, 30), (7, 3, 0), (7, 26, 31), (8, 3, 0), (8, 33, 32), (8, 40, 33), (8, 57, 34), (8, 58, 35), (8, 64, 36), (8, 68, 31), (8, 74, 37), (8, 77, 38), (9, 1, 29), (9, 13, 39), (10, 3, 0), (10, 52, 11), (10, 58, 40), (10, 62, 41), (10, 71, 42), (10, 75, 43), (10, 83, 44), (10, 87, 45), (10, 91, 46), (10, 94, 47), (11, 3, 0), (11, 11, 48), (11, 30, 49), (11, 37, 50), (11, 44, 32), (11, 51, 33), (11, 65, 51), (11, 71, 52), (11, 76, 53), (11, 79, 29), (11, 86, 54), (11, 90, 55), (11, 96, 56), (11, 104, 40), (11, 108, 57), (11, 112, 58), (11, 116, 59), (11, 120, 21), (11, 125, 3), (11, 133, 60), (11, 138, 61), (11, 150, 62), (11, 158, 63), (11, 163, 64), (11, 166, 65), (11, 170, 66), (11, 174, 67), (11, 184, 68), (11, 188, 69), (11, 195, 70), (11, 201, 71), (11, 217, 7), (11, 223, 72), (11, 232, 18), (11, 238, 25), (11, 242, 26), (11, 245, 73), (11, 249, 74), (11, 253, 75), (11, 257, 76), (11, 263, 37), (11, 275, 77), (11, 278, 78), (11, 285, 27), (11, 291, 79), (11, 295, 80), (11, 298, 81), (11, 301, 82), (11, 308, 15), (11, 316, 83), (11, 321, 84), (11, 325, 85), (11, 329, 86), (11, 333, 87), (11, 337, 88), (11, 346, 89), (11, 349, 90), (11, 353, 24), (11, 356, 91), (11, 359, 92), (11, 363, 93), (11, 366, 94), (11, 369, 95), (11, 375, 96), (11, 379, 4), (11, 388, 14), (11, 391, 97), (11, 394, 98), (11, 398, 99), (11, 402, 17), (11, 406, 100), (11, 410, 101), (11, 413, 102), (11, 417, 103), (11, 436, 104), (12, 1, 0), (12, 80, 105), (12, 84, 106), (12, 88, 107), (12, 91, 108), (12, 96, 109), (12, 99, 110), (12, 103, 111), (12, 107, 112), (12, 111, 113), (12, 115, 114), (12, 119, 115), (12, 122, 116), (12, 126, 117), (12, 130, 118), (12, 136, 119), (12, 140, 120), (12, 144, 121), (12, 148, 122), (12, 151, 123), (12, 155, 124), (12, 159, 125), (12, 162, 126), (12, 166, 127), (12, 174, 128), (12, 177, 129), (12, 181, 130), (12, 185, 131), (12, 189, 132), (12, 192, 133), (12, 195, 134), (12, 198, 135), (12, 201, 136), (12, 204, 137), (12, 209, 138), (12, 212, 139), (12, 216, 140), (12, 220, 141), (12, 223, 142), (12, 226, 143), (12, 229, 144), (12, 232, 145), (12, 235, 146), (12, 239, 147), (12, 242, 148), (12, 245, 149), (12, 248, 150), (12, 252, 151), (12, 255, 152), (12, 258, 153), (12, 262, 154), (12, 265, 155), (12, 268, 156), (12, 271, 157), (12, 274, 158), (18, 9, 159), (18, 12, 160), (18, 13, 161), (18, 17, 162), (18, 18, 163), (18, 22, 164), (18, 25, 165), (18, 29, 166), (18, 30, 167), (18, 34, 120), (18, 35, 168), (18, 38, 169), (18, 39, 170), (18, 43, 171), (18, 44, 172), (18, 48, 173), (18, 49, 174), (18, 53, 175), (18, 54, 176), (18, 57, 177), (18, 58, 178), (18, 62, 179), (18, 63, 180), (18, 66, 181), (18, 67, 182), (18, 70, 183), (18, 71, 184), (18, 74, 185), (18, 75, 186), (18, 78, 187), (18, 79, 188), (18, 83, 189), (18, 84, 190), (18, 88, 191), (18, 89, 192), (18, 92, 193), (18, 93, 194), (18, 96, 195), (18, 97, 196), (18, 101, 197), (18, 102, 198), (18, 105, 199), (18, 106, 200), (18, 110, 201), (18, 111, 202), (18, 115, 203), (18, 116, 204), (18, 119, 205), (18, 120, 206), (18, 123, 207), (18, 124, 208), (18, 127, 209), (18, 128, 210), (18, 131, 211), (18, 132, 212), (18, 135, 213), (18, 136, 214), (18, 139, 215), (18, 140, 216), (18, 144, 217), (18, 145, 218), (18, 148, 219), (18, 149, 220), (18, 152, 221), (18, 153, 222), (18, 156, 223), (18, 157, 224), (18, 160, 225), (18, 161, 226), (18, 164, 227), (18, 165, 228), (18, 169, 229), (18, 170, 230), (18, 173, 231), (18, 174, 232), (18, 178, 233), (18, 179, 234), (18, 182, 235)]
def q_kk : List (Nat × Nat × Nat) := [(11, 248, 1103515245), (12, 7, 60190), (12, 14, 120380), (12, 171, 60180), (12, 219, 1103515245), (13, 265, 1431655765), (13, 266, 858993459), (13, 267, 252645135)]
def q_kl : List (Nat × Nat × Nat) := [(4, 92, 9223372036854775807), (10, 69, 18446744073709551615), (11, 94, 18446744073709551615), (11, 421, 18446744073709551612), (11, 426, 18446744073709551613), (11, 428, 18446744073709551614), (12, 94, 8), (12, 134, 18446744073709551615), (12, 169, 2), (12, 172, 6), (12, 207, 9), (12, 278, 18446744073709551612), (12, 280, 18446744073709551613), (12, 282, 18446744073709551614), (18, 23, 4294967295)]
def q_nk : List (Nat × Nat × Nat) := [(1, 16, 18), (3, 18, 18), (5, 19, 19), (5, 19, 3), (8, 9, 17), (8, 21, 20), (8, 31, 7), (8, 38, 1), (8, 21, 5), (11, 9, 8), (11, 9, 21), (11, 28, 10), (11, 35, 4), (11, 42, 7), (11, 49, 1), (11, 69, 9), (11, 74, 6), (11, 77, 0), (11, 151, 3), (11, 161, 2), (18, 7, 11), (18, 10, 12)]
