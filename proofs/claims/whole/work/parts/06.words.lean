/-! the words of the tables that the walks use, by their places -/
set_option maxRecDepth 100000 in
theorem in_X0 : ∀ w ∈ u_ws RX0 TX0 3, w ∈ AW := by decide +kernel
theorem cl_X0 : vwCl[2]? = some (RX0, TX0, 3) := rfl
set_option maxRecDepth 100000 in
theorem in_X1 : ∀ w ∈ u_ws RX1 TX1 3, w ∈ AW := by decide +kernel
theorem cl_X1 : vwCl[3]? = some (RX1, TX1, 3) := rfl
set_option maxRecDepth 100000 in
theorem in_X2 : ∀ w ∈ u_ws RX2 TX2 2, w ∈ AW := by decide +kernel
theorem cl_X2 : vwCl[4]? = some (RX2, TX2, 2) := rfl
set_option maxRecDepth 100000 in
theorem in_X3 : ∀ w ∈ u_ws RX3 TX3 3, w ∈ AW := by decide +kernel
theorem cl_X3 : vwCl[5]? = some (RX3, TX3, 3) := rfl
set_option maxRecDepth 100000 in
theorem in_X4 : ∀ w ∈ u_ws RX4 TX4 7, w ∈ AW := by decide +kernel
theorem cl_X4 : vwCl[6]? = some (RX4, TX4, 7) := rfl
set_option maxRecDepth 100000 in
theorem in_X5 : ∀ w ∈ u_ws RX5 TX5 5, w ∈ AW := by decide +kernel
theorem cl_X5 : vwCl[7]? = some (RX5, TX5, 5) := rfl
set_option maxRecDepth 100000 in
theorem in_X6 : ∀ w ∈ u_ws RX6 TX6 6, w ∈ AW := by decide +kernel
theorem cl_X6 : vwCl[8]? = some (RX6, TX6, 6) := rfl
set_option maxRecDepth 100000 in
theorem in_X7 : ∀ w ∈ u_ws RX7 TX7 3, w ∈ AW := by decide +kernel
theorem cl_X7 : vwCl[9]? = some (RX7, TX7, 3) := rfl
set_option maxRecDepth 100000 in
theorem in_X8 : ∀ w ∈ u_ws RX8 TX8 9, w ∈ AW := by decide +kernel
theorem cl_X8 : vwCl[10]? = some (RX8, TX8, 9) := rfl
set_option maxRecDepth 100000 in
theorem in_X9 : ∀ w ∈ u_ws RX9 TX9 25, w ∈ AW := by decide +kernel
theorem cl_X9 : vwCl[11]? = some (RX9, TX9, 25) := rfl
theorem wm_X8_3 : Cond.methodLink RX8 3 objectInit ∈ AW := AW_in 33 (by decide +kernel) (by decide +kernel)
theorem wk_X8_9 : Cond.classLink RX8 9 RX7 ∈ AW := AW_in 36 (by decide +kernel) (by decide +kernel)
theorem wm_X8_11 : Cond.methodLinkNest RX8 11 yX7_init "Rosterproof" ∈ NW := NW_in 38 (by decide +kernel) (by decide +kernel)
theorem wf_X8_12 : Cond.fieldLink RX8 12 (TX8 0).1 (TX8 0).2.1 (TX8 0).2.2.1 ∈ AW := AW_in 215 (by decide +kernel) (by decide +kernel)
theorem wk_X8_16 : Cond.classLink RX8 16 RX6 ∈ AW := AW_in 55 (by decide +kernel) (by decide +kernel)
theorem wm_X8_18 : Cond.methodLinkNest RX8 18 yX6_init "Rosterproof" ∈ NW := NW_in 57 (by decide +kernel) (by decide +kernel)
theorem wf_X8_19 : Cond.fieldLink RX8 19 (TX8 1).1 (TX8 1).2.1 (TX8 1).2.2.1 ∈ AW := AW_in 216 (by decide +kernel) (by decide +kernel)
theorem wk_X8_23 : Cond.classLink RX8 23 RX5 ∈ AW := AW_in 94 (by decide +kernel) (by decide +kernel)
theorem wm_X8_25 : Cond.methodLinkNest RX8 25 yX5_init "Rosterproof" ∈ NW := NW_in 96 (by decide +kernel) (by decide +kernel)
theorem wf_X8_26 : Cond.fieldLink RX8 26 (TX8 2).1 (TX8 2).2.1 (TX8 2).2.2.1 ∈ AW := AW_in 217 (by decide +kernel) (by decide +kernel)
theorem wk_X8_30 : Cond.classLink RX8 30 RX3 ∈ AW := AW_in 119 (by decide +kernel) (by decide +kernel)
theorem wm_X8_32 : Cond.methodLink RX8 32 yX3_init ∈ AW := AW_in 121 (by decide +kernel) (by decide +kernel)
theorem wf_X8_35 : Cond.fieldLink RX8 35 (TX8 3).1 (TX8 3).2.1 (TX8 3).2.2.1 ∈ AW := AW_in 218 (by decide +kernel) (by decide +kernel)
theorem wk_X8_39 : Cond.classLink RX8 39 RX1 ∈ AW := AW_in 135 (by decide +kernel) (by decide +kernel)
theorem wm_X8_41 : Cond.methodLink RX8 41 yX1_init ∈ AW := AW_in 137 (by decide +kernel) (by decide +kernel)
theorem wf_X8_42 : Cond.fieldLink RX8 42 (TX8 4).1 (TX8 4).2.1 (TX8 4).2.2.1 ∈ AW := AW_in 219 (by decide +kernel) (by decide +kernel)
theorem wk_X8_46 : Cond.classLink RX8 46 RX2 ∈ AW := AW_in 151 (by decide +kernel) (by decide +kernel)
theorem wm_X8_48 : Cond.methodLinkNest RX8 48 yX2_init "Rosterproof" ∈ NW := NW_in 153 (by decide +kernel) (by decide +kernel)
theorem wf_X8_49 : Cond.fieldLink RX8 49 (TX8 5).1 (TX8 5).2.1 (TX8 5).2.2.1 ∈ AW := AW_in 220 (by decide +kernel) (by decide +kernel)
theorem wf_X8_53 : Cond.fieldLink RX8 53 (TX8 6).1 (TX8 6).2.1 (TX8 6).2.2.1 ∈ AW := AW_in 221 (by decide +kernel) (by decide +kernel)
theorem wk_X8_56 : Cond.classLink RX8 56 RX4 ∈ AW := AW_in 165 (by decide +kernel) (by decide +kernel)
theorem wm_X8_58 : Cond.methodLink RX8 58 yX4_init ∈ AW := AW_in 167 (by decide +kernel) (by decide +kernel)
theorem wf_X8_61 : Cond.fieldLink RX8 61 (TX8 7).1 (TX8 7).2.1 (TX8 7).2.2.1 ∈ AW := AW_in 222 (by decide +kernel) (by decide +kernel)
theorem wk_X8_65 : Cond.classLink RX8 65 RX0 ∈ AW := AW_in 213 (by decide +kernel) (by decide +kernel)
theorem wm_X8_67 : Cond.methodLinkNest RX8 67 yX0_init "Rosterproof" ∈ NW := NW_in 214 (by decide +kernel) (by decide +kernel)
theorem wf_X8_68 : Cond.fieldLink RX8 68 (TX8 8).1 (TX8 8).2.1 (TX8 8).2.2.1 ∈ AW := AW_in 223 (by decide +kernel) (by decide +kernel)
theorem wf_X8_72 : Cond.fieldLinkNest RX8 72 (TX5 4).1 (TX5 4).2.1 (TX5 4).2.2.1 "Rosterproof" ∈ NW := NW_in 105 (by decide +kernel) (by decide +kernel)
theorem wm_X8_83 : Cond.methodLink RX8 83 yX8_requireRange ∈ AW := AW_in 547 (by decide +kernel) (by decide +kernel)
theorem wf_X8_87 : Cond.fieldLinkNest RX8 87 (TX7 2).1 (TX7 2).2.1 (TX7 2).2.2.1 "Rosterproof" ∈ NW := NW_in 45 (by decide +kernel) (by decide +kernel)
theorem wm_X8_92 : Cond.methodLink RX8 92 yX7_append ∈ AW := AW_in 567 (by decide +kernel) (by decide +kernel)
theorem wm_X8_96 : Cond.methodLink RX8 96 yX8_requireShift ∈ AW := AW_in 579 (by decide +kernel) (by decide +kernel)
theorem wm_X8_100 : Cond.methodLink RX8 100 yX7_holdsNight ∈ AW := AW_in 603 (by decide +kernel) (by decide +kernel)
theorem wm_X8_104 : Cond.methodLink RX8 104 yX8_requirePerson ∈ AW := AW_in 635 (by decide +kernel) (by decide +kernel)
theorem wm_X8_107 : Cond.methodLink RX8 107 yX5_hasSkill ∈ AW := AW_in 656 (by decide +kernel) (by decide +kernel)
theorem wm_X8_111 : Cond.methodLink RX8 111 yX5_putSkill ∈ AW := AW_in 657 (by decide +kernel) (by decide +kernel)
theorem wf_X8_115 : Cond.fieldLinkNest RX8 115 (TX6 1).1 (TX6 1).2.1 (TX6 1).2.2.1 "Rosterproof" ∈ NW := NW_in 64 (by decide +kernel) (by decide +kernel)
theorem wf_X8_118 : Cond.fieldLinkNest RX8 118 (TX6 2).1 (TX6 2).2.1 (TX6 2).2.2.1 "Rosterproof" ∈ NW := NW_in 67 (by decide +kernel) (by decide +kernel)
theorem wf_X8_121 : Cond.fieldLinkNest RX8 121 (TX6 3).1 (TX6 3).2.1 (TX6 3).2.2.1 "Rosterproof" ∈ NW := NW_in 71 (by decide +kernel) (by decide +kernel)
theorem wf_X8_124 : Cond.fieldLinkNest RX8 124 (TX6 5).1 (TX6 5).2.1 (TX6 5).2.2.1 "Rosterproof" ∈ NW := NW_in 80 (by decide +kernel) (by decide +kernel)
theorem wf_X8_127 : Cond.fieldLinkNest RX8 127 (TX6 4).1 (TX6 4).2.1 (TX6 4).2.2.1 "Rosterproof" ∈ NW := NW_in 76 (by decide +kernel) (by decide +kernel)
theorem wm_X8_130 : Cond.methodLink RX8 130 yX8_requireDay ∈ AW := AW_in 696 (by decide +kernel) (by decide +kernel)
theorem wm_X8_133 : Cond.methodLink RX8 133 yX6_demandAt ∈ AW := AW_in 700 (by decide +kernel) (by decide +kernel)
theorem wm_X8_136 : Cond.methodLink RX8 136 yX6_putDemand ∈ AW := AW_in 701 (by decide +kernel) (by decide +kernel)
theorem wm_X8_139 : Cond.methodLink RX8 139 yX5_shiftAt ∈ AW := AW_in 712 (by decide +kernel) (by decide +kernel)
theorem wm_X8_142 : Cond.methodLink RX8 142 yX8_cellOf ∈ AW := AW_in 713 (by decide +kernel) (by decide +kernel)
theorem wm_X8_145 : Cond.methodLink RX8 145 yX5_put ∈ AW := AW_in 714 (by decide +kernel) (by decide +kernel)
theorem wm_X8_150 : Cond.methodLink RX8 150 yX5_isAway ∈ AW := AW_in 730 (by decide +kernel) (by decide +kernel)
theorem wm_X8_153 : Cond.methodLink RX8 153 yX5_putAway ∈ AW := AW_in 731 (by decide +kernel) (by decide +kernel)
theorem wm_X8_157 : Cond.methodLink RX8 157 yX3_restAt ∈ AW := AW_in 749 (by decide +kernel) (by decide +kernel)
theorem wm_X8_165 : Cond.methodLink RX8 165 yX3_nightsByCounting ∈ AW := AW_in 343 (by decide +kernel) (by decide +kernel)
theorem wm_X8_169 : Cond.methodLink RX8 169 yX3_nightsByTryingRows ∈ AW := AW_in 355 (by decide +kernel) (by decide +kernel)
theorem wm_X8_172 : Cond.methodLink RX8 172 yX3_sumByMoving ∈ AW := AW_in 363 (by decide +kernel) (by decide +kernel)
theorem wm_X8_175 : Cond.methodLink RX8 175 yX3_sumByAddingAnew ∈ AW := AW_in 368 (by decide +kernel) (by decide +kernel)
theorem wm_X8_178 : Cond.methodLink RX8 178 yX1_look ∈ AW := AW_in 247 (by decide +kernel) (by decide +kernel)
theorem wm_X8_182 : Cond.methodLink RX8 182 yX2_size ∈ AW := AW_in 313 (by decide +kernel) (by decide +kernel)
theorem wm_X8_186 : Cond.methodLink RX8 186 yX8_requireBreach ∈ AW := AW_in 791 (by decide +kernel) (by decide +kernel)
theorem wm_X8_189 : Cond.methodLink RX8 189 yX8_kindOf ∈ AW := AW_in 797 (by decide +kernel) (by decide +kernel)
theorem wm_X8_194 : Cond.methodLink RX8 194 yJ0_length_8abf5 ∈ AW := AW_in 799 (by decide +kernel) (by decide +kernel)
theorem wm_X8_199 : Cond.methodLink RX8 199 yJ0_charAt_5068e ∈ AW := AW_in 809 (by decide +kernel) (by decide +kernel)
theorem wm_X8_203 : Cond.methodLink RX8 203 yX8_personOf ∈ AW := AW_in 854 (by decide +kernel) (by decide +kernel)
theorem wm_X8_206 : Cond.methodLink RX8 206 yX8_dayOf ∈ AW := AW_in 862 (by decide +kernel) (by decide +kernel)
theorem wm_X8_209 : Cond.methodLink RX8 209 yX8_shiftIn ∈ AW := AW_in 870 (by decide +kernel) (by decide +kernel)
theorem wm_X8_212 : Cond.methodLink RX8 212 yX2_mostBurdened ∈ AW := AW_in 880 (by decide +kernel) (by decide +kernel)
theorem wm_X8_222 : Cond.methodLink RX8 222 yX8_sizeAfterExchange ∈ AW := AW_in 894 (by decide +kernel) (by decide +kernel)
theorem wm_X8_231 : Cond.methodLink RX8 231 yX5_exchange ∈ AW := AW_in 898 (by decide +kernel) (by decide +kernel)
theorem wm_X8_236 : Cond.methodLink RX8 236 yX4_seek ∈ AW := AW_in 372 (by decide +kernel) (by decide +kernel)
theorem wm_X8_240 : Cond.methodLink RX8 240 yX8_requireSize ∈ AW := AW_in 940 (by decide +kernel) (by decide +kernel)
theorem wf_X8_243 : Cond.fieldLinkNest RX8 243 (TX0 2).1 (TX0 2).2.1 (TX0 2).2.2.1 "Rosterproof" ∈ NW := NW_in 182 (by decide +kernel) (by decide +kernel)
theorem wf_X8_245 : Cond.fieldLinkNest RX8 245 (TX4 6).1 (TX4 6).2.1 (TX4 6).2.2.1 "Rosterproof" ∈ NW := NW_in 197 (by decide +kernel) (by decide +kernel)
theorem wm_X8_248 : Cond.methodLink RX8 248 yX0_cellAt ∈ AW := AW_in 958 (by decide +kernel) (by decide +kernel)
theorem wm_X8_251 : Cond.methodLink RX8 251 yX0_valueAt ∈ AW := AW_in 962 (by decide +kernel) (by decide +kernel)
theorem wm_X8_254 : Cond.methodLink RX8 254 yX0_put ∈ AW := AW_in 966 (by decide +kernel) (by decide +kernel)
theorem wm_X8_256 : Cond.methodLink RX8 256 yX8_requireChange ∈ AW := AW_in 974 (by decide +kernel) (by decide +kernel)
theorem wm_X8_259 : Cond.methodLink RX8 259 yX3_minutesAt ∈ AW := AW_in 333 (by decide +kernel) (by decide +kernel)
theorem wk_X8_262 : Cond.constantFloat RX8 262 (1090519040) ∈ AW := AW_in 993 (by decide +kernel) (by decide +kernel)
theorem wm_X8_268 : Cond.methodLink RX8 268 yX5_hasPerson ∈ AW := AW_in 639 (by decide +kernel) (by decide +kernel)
theorem wm_X8_278 : Cond.methodLink RX8 278 yX7_has ∈ AW := AW_in 583 (by decide +kernel) (by decide +kernel)
theorem wm_X8_289 : Cond.methodLink RX8 289 yX2_breachAt ∈ AW := AW_in 795 (by decide +kernel) (by decide +kernel)
theorem wm_X8_294 : Cond.methodLink RX8 294 yX2_isPartOf ∈ AW := AW_in 904 (by decide +kernel) (by decide +kernel)
theorem wm_X0_3 : Cond.methodLink RX0 3 objectInit ∈ AW := AW_in 178 (by decide +kernel) (by decide +kernel)
theorem wf_X0_9 : Cond.fieldLink RX0 9 (TX0 0).1 (TX0 0).2.1 (TX0 0).2.2.1 ∈ AW := AW_in 179 (by decide +kernel) (by decide +kernel)
theorem wf_X0_15 : Cond.fieldLink RX0 15 (TX0 1).1 (TX0 1).2.1 (TX0 1).2.2.1 ∈ AW := AW_in 180 (by decide +kernel) (by decide +kernel)
theorem wf_X0_18 : Cond.fieldLink RX0 18 (TX0 2).1 (TX0 2).2.1 (TX0 2).2.2.1 ∈ AW := AW_in 181 (by decide +kernel) (by decide +kernel)
theorem wm_X1_3 : Cond.methodLink RX1 3 objectInit ∈ AW := AW_in 140 (by decide +kernel) (by decide +kernel)
theorem wf_X1_9 : Cond.fieldLink RX1 9 (TX1 0).1 (TX1 0).2.1 (TX1 0).2.2.1 ∈ AW := AW_in 141 (by decide +kernel) (by decide +kernel)
theorem wf_X1_15 : Cond.fieldLink RX1 15 (TX1 1).1 (TX1 1).2.1 (TX1 1).2.2.1 ∈ AW := AW_in 142 (by decide +kernel) (by decide +kernel)
theorem wf_X1_19 : Cond.fieldLink RX1 19 (TX1 2).1 (TX1 2).2.1 (TX1 2).2.2.1 ∈ AW := AW_in 143 (by decide +kernel) (by decide +kernel)
theorem wm_X1_23 : Cond.methodLink RX1 23 yX1_breachesOf ∈ AW := AW_in 251 (by decide +kernel) (by decide +kernel)
theorem wm_X1_27 : Cond.methodLink RX1 27 yX2_putRow ∈ AW := AW_in 288 (by decide +kernel) (by decide +kernel)
theorem wm_X1_33 : Cond.methodLink RX1 33 yX1_shortagesOf ∈ AW := AW_in 292 (by decide +kernel) (by decide +kernel)
theorem wm_X1_37 : Cond.methodLink RX1 37 yX2_putShortages ∈ AW := AW_in 308 (by decide +kernel) (by decide +kernel)
theorem wm_X1_41 : Cond.methodLink RX1 41 yX5_shiftAt ∈ AW := AW_in 255 (by decide +kernel) (by decide +kernel)
theorem wf_X1_47 : Cond.fieldLinkNest RX1 47 (TX6 4).1 (TX6 4).2.1 (TX6 4).2.2.1 "Rosterproof" ∈ NW := NW_in 74 (by decide +kernel) (by decide +kernel)
theorem wm_X1_53 : Cond.methodLink RX1 53 yX7_holdsNight ∈ AW := AW_in 262 (by decide +kernel) (by decide +kernel)
theorem wm_X1_59 : Cond.methodLink RX1 59 yX7_lengthOf ∈ AW := AW_in 266 (by decide +kernel) (by decide +kernel)
theorem wf_X1_62 : Cond.fieldLinkNest RX1 62 (TX6 2).1 (TX6 2).2.1 (TX6 2).2.2.1 "Rosterproof" ∈ NW := NW_in 66 (by decide +kernel) (by decide +kernel)
theorem wm_X1_65 : Cond.methodLink RX1 65 yX1_bitIf ∈ AW := AW_in 270 (by decide +kernel) (by decide +kernel)
theorem wf_X1_69 : Cond.fieldLinkNest RX1 69 (TX6 3).1 (TX6 3).2.1 (TX6 3).2.2.1 "Rosterproof" ∈ NW := NW_in 70 (by decide +kernel) (by decide +kernel)
theorem wf_X1_72 : Cond.fieldLinkNest RX1 72 (TX6 5).1 (TX6 5).2.1 (TX6 5).2.2.1 "Rosterproof" ∈ NW := NW_in 79 (by decide +kernel) (by decide +kernel)
theorem wm_X1_75 : Cond.methodLink RX1 75 yX7_startOf ∈ AW := AW_in 273 (by decide +kernel) (by decide +kernel)
theorem wm_X1_78 : Cond.methodLink RX1 78 yX5_isAway ∈ AW := AW_in 277 (by decide +kernel) (by decide +kernel)
theorem wm_X1_82 : Cond.methodLink RX1 82 yX5_hasSkill ∈ AW := AW_in 281 (by decide +kernel) (by decide +kernel)
theorem wf_X1_85 : Cond.fieldLinkNest RX1 85 (TX6 1).1 (TX6 1).2.1 (TX6 1).2.2.1 "Rosterproof" ∈ NW := NW_in 63 (by decide +kernel) (by decide +kernel)
theorem wm_X1_88 : Cond.methodLink RX1 88 yX5_staffAt ∈ AW := AW_in 296 (by decide +kernel) (by decide +kernel)
theorem wm_X1_91 : Cond.methodLink RX1 91 yX6_demandAt ∈ AW := AW_in 303 (by decide +kernel) (by decide +kernel)
theorem wm_X2_3 : Cond.methodLink RX2 3 objectInit ∈ AW := AW_in 156 (by decide +kernel) (by decide +kernel)
theorem wf_X2_9 : Cond.fieldLink RX2 9 (TX2 0).1 (TX2 0).2.1 (TX2 0).2.2.1 ∈ AW := AW_in 157 (by decide +kernel) (by decide +kernel)
theorem wf_X2_15 : Cond.fieldLink RX2 15 (TX2 1).1 (TX2 1).2.1 (TX2 1).2.2.1 ∈ AW := AW_in 158 (by decide +kernel) (by decide +kernel)
theorem wm_X2_19 : Cond.methodLinkNest RX2 19 yX8_postOf "Rosterproof" ∈ NW := NW_in 312 (by decide +kernel) (by decide +kernel)
theorem wm_X2_23 : Cond.methodLink RX2 23 yJ6_bitCount_0f7a4 ∈ AW := AW_in 317 (by decide +kernel) (by decide +kernel)
theorem wm_X2_29 : Cond.methodLink RX2 29 yJ13_bitCount_95d88 ∈ AW := AW_in 323 (by decide +kernel) (by decide +kernel)
theorem wk_X2_34 : Cond.constantLong RX2 34 (-1) ∈ AW := AW_in 908 (by decide +kernel) (by decide +kernel)
theorem wm_X2_36 : Cond.methodLink RX2 36 yX2_daysOf ∈ AW := AW_in 382 (by decide +kernel) (by decide +kernel)
theorem wm_X2_39 : Cond.methodLink RX2 39 yX2_placeOfBit ∈ AW := AW_in 386 (by decide +kernel) (by decide +kernel)
theorem wm_X2_42 : Cond.methodLinkNest RX2 42 yX8_breachOf "Rosterproof" ∈ NW := NW_in 389 (by decide +kernel) (by decide +kernel)
theorem wm_X3_3 : Cond.methodLink RX3 3 objectInit ∈ AW := AW_in 124 (by decide +kernel) (by decide +kernel)
theorem wf_X3_9 : Cond.fieldLink RX3 9 (TX3 0).1 (TX3 0).2.1 (TX3 0).2.2.1 ∈ AW := AW_in 125 (by decide +kernel) (by decide +kernel)
theorem wf_X3_15 : Cond.fieldLink RX3 15 (TX3 1).1 (TX3 1).2.1 (TX3 1).2.2.1 ∈ AW := AW_in 126 (by decide +kernel) (by decide +kernel)
theorem wf_X3_19 : Cond.fieldLink RX3 19 (TX3 2).1 (TX3 2).2.1 (TX3 2).2.2.1 ∈ AW := AW_in 127 (by decide +kernel) (by decide +kernel)
theorem wm_X3_23 : Cond.methodLink RX3 23 yX5_shiftAt ∈ AW := AW_in 337 (by decide +kernel) (by decide +kernel)
theorem wm_X3_29 : Cond.methodLink RX3 29 yX7_lengthOf ∈ AW := AW_in 338 (by decide +kernel) (by decide +kernel)
theorem wm_X3_35 : Cond.methodLink RX3 35 yX7_holdsNight ∈ AW := AW_in 351 (by decide +kernel) (by decide +kernel)
theorem wm_X3_39 : Cond.methodLink RX3 39 yX3_dayWorkedBefore ∈ AW := AW_in 753 (by decide +kernel) (by decide +kernel)
theorem wm_X3_42 : Cond.methodLink RX3 42 yX7_startOf ∈ AW := AW_in 754 (by decide +kernel) (by decide +kernel)
theorem wm_X3_45 : Cond.methodLink RX3 45 yX3_isNightAt ∈ AW := AW_in 347 (by decide +kernel) (by decide +kernel)
theorem wm_X3_49 : Cond.methodLink RX3 49 Lib.Math.max.name ∈ AW := AW_in 352 (by decide +kernel) (by decide +kernel)
theorem wm_X3_54 : Cond.methodLink RX3 54 yX3_isRowOfNights ∈ AW := AW_in 359 (by decide +kernel) (by decide +kernel)
theorem wm_X3_58 : Cond.methodLink RX3 58 yX3_minutesAt ∈ AW := AW_in 367 (by decide +kernel) (by decide +kernel)
theorem wf_X3_61 : Cond.fieldLinkNest RX3 61 (TX6 4).1 (TX6 4).2.1 (TX6 4).2.2.1 "Rosterproof" ∈ NW := NW_in 77 (by decide +kernel) (by decide +kernel)
theorem wm_X4_3 : Cond.methodLink RX4 3 objectInit ∈ AW := AW_in 170 (by decide +kernel) (by decide +kernel)
theorem wk_X4_9 : Cond.classLink RX4 9 RX2 ∈ AW := AW_in 171 (by decide +kernel) (by decide +kernel)
theorem wm_X4_11 : Cond.methodLinkNest RX4 11 yX2_init "Rosterproof" ∈ NW := NW_in 172 (by decide +kernel) (by decide +kernel)
theorem wf_X4_12 : Cond.fieldLink RX4 12 (TX4 5).1 (TX4 5).2.1 (TX4 5).2.2.1 ∈ AW := AW_in 195 (by decide +kernel) (by decide +kernel)
theorem wk_X4_18 : Cond.classLink RX4 18 RX0 ∈ AW := AW_in 173 (by decide +kernel) (by decide +kernel)
theorem wm_X4_20 : Cond.methodLinkNest RX4 20 yX0_init "Rosterproof" ∈ NW := NW_in 175 (by decide +kernel) (by decide +kernel)
theorem wf_X4_21 : Cond.fieldLink RX4 21 (TX4 6).1 (TX4 6).2.1 (TX4 6).2.2.1 ∈ AW := AW_in 196 (by decide +kernel) (by decide +kernel)
theorem wf_X4_25 : Cond.fieldLink RX4 25 (TX4 0).1 (TX4 0).2.1 (TX4 0).2.2.1 ∈ AW := AW_in 190 (by decide +kernel) (by decide +kernel)
theorem wf_X4_29 : Cond.fieldLink RX4 29 (TX4 1).1 (TX4 1).2.1 (TX4 1).2.2.1 ∈ AW := AW_in 191 (by decide +kernel) (by decide +kernel)
theorem wf_X4_33 : Cond.fieldLink RX4 33 (TX4 2).1 (TX4 2).2.1 (TX4 2).2.2.1 ∈ AW := AW_in 192 (by decide +kernel) (by decide +kernel)
theorem wf_X4_37 : Cond.fieldLink RX4 37 (TX4 3).1 (TX4 3).2.1 (TX4 3).2.2.1 ∈ AW := AW_in 193 (by decide +kernel) (by decide +kernel)
theorem wf_X4_41 : Cond.fieldLink RX4 41 (TX4 4).1 (TX4 4).2.1 (TX4 4).2.2.1 ∈ AW := AW_in 194 (by decide +kernel) (by decide +kernel)
theorem wm_X4_45 : Cond.methodLink RX4 45 yX1_look ∈ AW := AW_in 376 (by decide +kernel) (by decide +kernel)
theorem wm_X4_51 : Cond.methodLink RX4 51 yX2_size ∈ AW := AW_in 377 (by decide +kernel) (by decide +kernel)
theorem wm_X4_55 : Cond.methodLink RX4 55 yX2_breachAt ∈ AW := AW_in 378 (by decide +kernel) (by decide +kernel)
theorem wm_X4_59 : Cond.methodLink RX4 59 yX4_touching ∈ AW := AW_in 392 (by decide +kernel) (by decide +kernel)
theorem wm_X4_62 : Cond.methodLink RX4 62 yX4_findLast ∈ AW := AW_in 417 (by decide +kernel) (by decide +kernel)
theorem wm_X4_66 : Cond.methodLink RX4 66 yX4_findTwo ∈ AW := AW_in 446 (by decide +kernel) (by decide +kernel)
theorem wf_X4_70 : Cond.fieldLinkNest RX4 70 (TX5 4).1 (TX5 4).2.1 (TX5 4).2.2.1 "Rosterproof" ∈ NW := NW_in 106 (by decide +kernel) (by decide +kernel)
theorem wm_X4_76 : Cond.methodLink RX4 76 yX5_valueAt ∈ AW := AW_in 428 (by decide +kernel) (by decide +kernel)
theorem wm_X4_79 : Cond.methodLink RX4 79 yX4_has ∈ AW := AW_in 421 (by decide +kernel) (by decide +kernel)
theorem wf_X4_82 : Cond.fieldLinkNest RX4 82 (TX7 2).1 (TX7 2).2.1 (TX7 2).2.2.1 "Rosterproof" ∈ NW := NW_in 46 (by decide +kernel) (by decide +kernel)
theorem wm_X4_87 : Cond.methodLink RX4 87 yX4_change ∈ AW := AW_in 450 (by decide +kernel) (by decide +kernel)
theorem wm_X4_91 : Cond.methodLink RX4 91 yX4_cellsAfter ∈ AW := AW_in 456 (by decide +kernel) (by decide +kernel)
theorem wm_X4_94 : Cond.methodLink RX4 94 yX0_put ∈ AW := AW_in 442 (by decide +kernel) (by decide +kernel)
theorem wm_X4_98 : Cond.methodLink RX4 98 yX5_put ∈ AW := AW_in 432 (by decide +kernel) (by decide +kernel)
theorem wm_X4_100 : Cond.methodLink RX4 100 yX1_breachesOf ∈ AW := AW_in 441 (by decide +kernel) (by decide +kernel)
theorem wm_X4_104 : Cond.methodLink RX4 104 yX2_putRow ∈ AW := AW_in 454 (by decide +kernel) (by decide +kernel)
theorem wm_X4_108 : Cond.methodLink RX4 108 yX1_shortagesOf ∈ AW := AW_in 440 (by decide +kernel) (by decide +kernel)
theorem wm_X4_111 : Cond.methodLink RX4 111 yX2_putShortages ∈ AW := AW_in 455 (by decide +kernel) (by decide +kernel)
theorem wm_X4_114 : Cond.methodLink RX4 114 yX2_isClearBesides ∈ AW := AW_in 424 (by decide +kernel) (by decide +kernel)
theorem wm_X4_117 : Cond.methodLinkNest RX4 117 yX8_dayOf "Rosterproof" ∈ NW := NW_in 396 (by decide +kernel) (by decide +kernel)
theorem wm_X4_120 : Cond.methodLinkNest RX4 120 yX8_personOf "Rosterproof" ∈ NW := NW_in 399 (by decide +kernel) (by decide +kernel)
theorem wm_X4_123 : Cond.methodLinkNest RX4 123 yX8_kindOf "Rosterproof" ∈ NW := NW_in 402 (by decide +kernel) (by decide +kernel)
theorem wm_X4_126 : Cond.methodLink RX4 126 yX3_dayWorkedBefore ∈ AW := AW_in 405 (by decide +kernel) (by decide +kernel)
theorem wm_X4_132 : Cond.methodLink RX4 132 yX4_cellsOf ∈ AW := AW_in 409 (by decide +kernel) (by decide +kernel)
theorem wf_X4_136 : Cond.fieldLinkNest RX4 136 (TX6 2).1 (TX6 2).2.1 (TX6 2).2.2.1 "Rosterproof" ∈ NW := NW_in 68 (by decide +kernel) (by decide +kernel)
theorem wf_X4_141 : Cond.fieldLinkNest RX4 141 (TX6 3).1 (TX6 3).2.1 (TX6 3).2.2.1 "Rosterproof" ∈ NW := NW_in 72 (by decide +kernel) (by decide +kernel)
theorem wf_X4_144 : Cond.fieldLinkNest RX4 144 (TX6 4).1 (TX6 4).2.1 (TX6 4).2.2.1 "Rosterproof" ∈ NW := NW_in 75 (by decide +kernel) (by decide +kernel)
theorem wm_X4_147 : Cond.methodLink RX4 147 yX4_cellsOfDay ∈ AW := AW_in 414 (by decide +kernel) (by decide +kernel)
theorem wm_X4_150 : Cond.methodLink RX4 150 Lib.Math.max.name ∈ AW := AW_in 412 (by decide +kernel) (by decide +kernel)
theorem wm_X4_155 : Cond.methodLinkNest RX4 155 yX8_cellOf "Rosterproof" ∈ NW := NW_in 413 (by decide +kernel) (by decide +kernel)
theorem wm_X5_3 : Cond.methodLink RX5 3 objectInit ∈ AW := AW_in 99 (by decide +kernel) (by decide +kernel)
theorem wf_X5_9 : Cond.fieldLink RX5 9 (TX5 0).1 (TX5 0).2.1 (TX5 0).2.2.1 ∈ AW := AW_in 100 (by decide +kernel) (by decide +kernel)
theorem wf_X5_15 : Cond.fieldLink RX5 15 (TX5 1).1 (TX5 1).2.1 (TX5 1).2.2.1 ∈ AW := AW_in 101 (by decide +kernel) (by decide +kernel)
theorem wf_X5_19 : Cond.fieldLink RX5 19 (TX5 2).1 (TX5 2).2.1 (TX5 2).2.2.1 ∈ AW := AW_in 102 (by decide +kernel) (by decide +kernel)
theorem wf_X5_22 : Cond.fieldLink RX5 22 (TX5 3).1 (TX5 3).2.1 (TX5 3).2.2.1 ∈ AW := AW_in 103 (by decide +kernel) (by decide +kernel)
theorem wf_X5_25 : Cond.fieldLink RX5 25 (TX5 4).1 (TX5 4).2.1 (TX5 4).2.2.1 ∈ AW := AW_in 104 (by decide +kernel) (by decide +kernel)
theorem wm_X5_29 : Cond.methodLinkNest RX5 29 yX8_cellOf "Rosterproof" ∈ NW := NW_in 259 (by decide +kernel) (by decide +kernel)
theorem wm_X5_33 : Cond.methodLink RX5 33 yX5_countStaff ∈ AW := AW_in 436 (by decide +kernel) (by decide +kernel)
theorem wm_X5_37 : Cond.methodLinkNest RX5 37 yX8_postOf "Rosterproof" ∈ NW := NW_in 300 (by decide +kernel) (by decide +kernel)
theorem wm_X5_40 : Cond.methodLink RX5 40 yX5_shiftAt ∈ AW := AW_in 902 (by decide +kernel) (by decide +kernel)
theorem wm_X5_43 : Cond.methodLink RX5 43 yX5_put ∈ AW := AW_in 903 (by decide +kernel) (by decide +kernel)
theorem wm_X5_47 : Cond.methodLinkNest RX5 47 yX8_skillOf "Rosterproof" ∈ NW := NW_in 285 (by decide +kernel) (by decide +kernel)
theorem wm_X6_3 : Cond.methodLink RX6 3 objectInit ∈ AW := AW_in 60 (by decide +kernel) (by decide +kernel)
theorem wf_X6_9 : Cond.fieldLink RX6 9 (TX6 0).1 (TX6 0).2.1 (TX6 0).2.2.1 ∈ AW := AW_in 61 (by decide +kernel) (by decide +kernel)
theorem wf_X6_15 : Cond.fieldLink RX6 15 (TX6 1).1 (TX6 1).2.1 (TX6 1).2.2.1 ∈ AW := AW_in 62 (by decide +kernel) (by decide +kernel)
theorem wf_X6_19 : Cond.fieldLink RX6 19 (TX6 2).1 (TX6 2).2.1 (TX6 2).2.2.1 ∈ AW := AW_in 65 (by decide +kernel) (by decide +kernel)
theorem wf_X6_22 : Cond.fieldLink RX6 22 (TX6 3).1 (TX6 3).2.1 (TX6 3).2.2.1 ∈ AW := AW_in 69 (by decide +kernel) (by decide +kernel)
theorem wf_X6_25 : Cond.fieldLink RX6 25 (TX6 4).1 (TX6 4).2.1 (TX6 4).2.2.1 ∈ AW := AW_in 73 (by decide +kernel) (by decide +kernel)
theorem wf_X6_28 : Cond.fieldLink RX6 28 (TX6 5).1 (TX6 5).2.1 (TX6 5).2.2.1 ∈ AW := AW_in 78 (by decide +kernel) (by decide +kernel)
theorem wm_X6_31 : Cond.methodLinkNest RX6 31 yX8_postOf "Rosterproof" ∈ NW := NW_in 307 (by decide +kernel) (by decide +kernel)
theorem wm_X7_3 : Cond.methodLink RX7 3 objectInit ∈ AW := AW_in 41 (by decide +kernel) (by decide +kernel)
theorem wf_X7_9 : Cond.fieldLink RX7 9 (TX7 0).1 (TX7 0).2.1 (TX7 0).2.2.1 ∈ AW := AW_in 42 (by decide +kernel) (by decide +kernel)
theorem wf_X7_15 : Cond.fieldLink RX7 15 (TX7 1).1 (TX7 1).2.1 (TX7 1).2.2.1 ∈ AW := AW_in 43 (by decide +kernel) (by decide +kernel)
theorem wf_X7_18 : Cond.fieldLink RX7 18 (TX7 2).1 (TX7 2).2.1 (TX7 2).2.2.1 ∈ AW := AW_in 44 (by decide +kernel) (by decide +kernel)
theorem wm_L_7 : Cond.methodLink RL 7 yX8_addPerson ∈ AW := AW_in 463 (by decide +kernel) (by decide +kernel)
theorem wk_L_8 : Cond.classLink RL 8 RX8 ∈ AW := AW_in 28 (by decide +kernel) (by decide +kernel)
theorem wm_L_15 : Cond.methodLink RL 15 yX8_addShift ∈ AW := AW_in 543 (by decide +kernel) (by decide +kernel)
theorem wm_L_21 : Cond.methodLink RL 21 yX8_isNight ∈ AW := AW_in 575 (by decide +kernel) (by decide +kernel)
theorem wm_L_27 : Cond.methodLink RL 27 yX8_teach ∈ AW := AW_in 631 (by decide +kernel) (by decide +kernel)
theorem wm_L_33 : Cond.methodLink RL 33 yX8_setRest ∈ AW := AW_in 664 (by decide +kernel) (by decide +kernel)
theorem wm_L_37 : Cond.methodLink RL 37 yX8_setNights ∈ AW := AW_in 671 (by decide +kernel) (by decide +kernel)
theorem wm_L_40 : Cond.methodLink RL 40 yX8_setRun ∈ AW := AW_in 678 (by decide +kernel) (by decide +kernel)
theorem wm_L_43 : Cond.methodLink RL 43 yX8_setHours ∈ AW := AW_in 685 (by decide +kernel) (by decide +kernel)
theorem wm_L_46 : Cond.methodLink RL 46 yX8_setDemand ∈ AW := AW_in 692 (by decide +kernel) (by decide +kernel)
theorem wm_L_50 : Cond.methodLink RL 50 yX8_assign ∈ AW := AW_in 708 (by decide +kernel) (by decide +kernel)
theorem wm_L_53 : Cond.methodLink RL 53 yX8_free ∈ AW := AW_in 718 (by decide +kernel) (by decide +kernel)
theorem wm_L_56 : Cond.methodLink RL 56 yX8_setAbsent ∈ AW := AW_in 726 (by decide +kernel) (by decide +kernel)
theorem wm_L_60 : Cond.methodLink RL 60 yX8_shiftOf ∈ AW := AW_in 738 (by decide +kernel) (by decide +kernel)
theorem wm_L_63 : Cond.methodLink RL 63 yX8_restBefore ∈ AW := AW_in 745 (by decide +kernel) (by decide +kernel)
theorem wm_L_66 : Cond.methodLink RL 66 yX8_longestNights ∈ AW := AW_in 759 (by decide +kernel) (by decide +kernel)
theorem wm_L_69 : Cond.methodLink RL 69 yX8_longestByRows ∈ AW := AW_in 766 (by decide +kernel) (by decide +kernel)
theorem wm_L_72 : Cond.methodLink RL 72 yX8_peak ∈ AW := AW_in 773 (by decide +kernel) (by decide +kernel)
theorem wm_L_75 : Cond.methodLink RL 75 yX8_peakByAdding ∈ AW := AW_in 780 (by decide +kernel) (by decide +kernel)
theorem wm_L_78 : Cond.methodLink RL 78 yX8_breachKind ∈ AW := AW_in 787 (by decide +kernel) (by decide +kernel)
theorem wm_L_82 : Cond.methodLink RL 82 yX8_breachPerson ∈ AW := AW_in 850 (by decide +kernel) (by decide +kernel)
theorem wm_L_85 : Cond.methodLink RL 85 yX8_breachDay ∈ AW := AW_in 858 (by decide +kernel) (by decide +kernel)
theorem wm_L_88 : Cond.methodLink RL 88 yX8_breachShift ∈ AW := AW_in 866 (by decide +kernel) (by decide +kernel)
theorem wm_L_91 : Cond.methodLink RL 91 yX8_mostBreaches ∈ AW := AW_in 876 (by decide +kernel) (by decide +kernel)
theorem wm_L_94 : Cond.methodLink RL 94 yX8_swap ∈ AW := AW_in 889 (by decide +kernel) (by decide +kernel)
theorem wm_L_99 : Cond.methodLink RL 99 yX8_partner ∈ AW := AW_in 928 (by decide +kernel) (by decide +kernel)
theorem wm_L_102 : Cond.methodLink RL 102 yX8_leastChanges ∈ AW := AW_in 936 (by decide +kernel) (by decide +kernel)
theorem wm_L_105 : Cond.methodLink RL 105 yX8_leastByTrial ∈ AW := AW_in 947 (by decide +kernel) (by decide +kernel)
theorem wm_L_108 : Cond.methodLink RL 108 yX8_mend ∈ AW := AW_in 954 (by decide +kernel) (by decide +kernel)
theorem wm_L_111 : Cond.methodLink RL 111 yX8_changedCell ∈ AW := AW_in 970 (by decide +kernel) (by decide +kernel)
theorem wm_L_114 : Cond.methodLink RL 114 yX8_changedValue ∈ AW := AW_in 982 (by decide +kernel) (by decide +kernel)
theorem wm_L_117 : Cond.methodLink RL 117 yX8_workShare ∈ AW := AW_in 989 (by decide +kernel) (by decide +kernel)
theorem wm_L_121 : Cond.methodLink RL 121 yX8_meanRest ∈ AW := AW_in 1011 (by decide +kernel) (by decide +kernel)
theorem wm_L_127 : Cond.methodLink RL 127 yX8_init ∈ AW := AW_in 30 (by decide +kernel) (by decide +kernel)
theorem wk_L_128 : Cond.classLink RL 128 RX9 ∈ AW := AW_in 1018 (by decide +kernel) (by decide +kernel)
theorem wm_L_130 : Cond.methodLink RL 130 yX9_init ∈ AW := AW_in 1020 (by decide +kernel) (by decide +kernel)
theorem wm_L_131 : Cond.methodLink RL 131 yL_addPerson ∈ AW := AW_in 459 (by decide +kernel) (by decide +kernel)
theorem wm_L_136 : Cond.methodLink RL 136 yX9_addPerson ∈ AW := AW_in 1105 (by decide +kernel) (by decide +kernel)
theorem wm_L_137 : Cond.methodLink RL 137 yX9_thrown ∈ AW := AW_in 1101 (by decide +kernel) (by decide +kernel)
theorem wm_L_140 : Cond.methodLink RL 140 yL_addShift ∈ AW := AW_in 539 (by decide +kernel) (by decide +kernel)
theorem wm_L_143 : Cond.methodLink RL 143 yX9_addShift ∈ AW := AW_in 1113 (by decide +kernel) (by decide +kernel)
theorem wm_L_144 : Cond.methodLink RL 144 yL_isNight ∈ AW := AW_in 571 (by decide +kernel) (by decide +kernel)
theorem wm_L_147 : Cond.methodLink RL 147 yX9_isNight ∈ AW := AW_in 1120 (by decide +kernel) (by decide +kernel)
theorem wm_L_148 : Cond.methodLink RL 148 yL_teach ∈ AW := AW_in 604 (by decide +kernel) (by decide +kernel)
theorem wm_L_150 : Cond.methodLink RL 150 yX9_teach ∈ AW := AW_in 1132 (by decide +kernel) (by decide +kernel)
theorem wm_L_151 : Cond.methodLink RL 151 yL_setRest ∈ AW := AW_in 661 (by decide +kernel) (by decide +kernel)
theorem wm_L_153 : Cond.methodLink RL 153 yX9_setRest ∈ AW := AW_in 1140 (by decide +kernel) (by decide +kernel)
theorem wm_L_154 : Cond.methodLink RL 154 yL_setNights ∈ AW := AW_in 668 (by decide +kernel) (by decide +kernel)
theorem wm_L_156 : Cond.methodLink RL 156 yX9_setNights ∈ AW := AW_in 1144 (by decide +kernel) (by decide +kernel)
theorem wm_L_157 : Cond.methodLink RL 157 yL_setRun ∈ AW := AW_in 675 (by decide +kernel) (by decide +kernel)
theorem wm_L_159 : Cond.methodLink RL 159 yX9_setRun ∈ AW := AW_in 1148 (by decide +kernel) (by decide +kernel)
theorem wm_L_160 : Cond.methodLink RL 160 yL_setHours ∈ AW := AW_in 682 (by decide +kernel) (by decide +kernel)
theorem wm_L_162 : Cond.methodLink RL 162 yX9_setHours ∈ AW := AW_in 1152 (by decide +kernel) (by decide +kernel)
theorem wm_L_163 : Cond.methodLink RL 163 yL_setDemand ∈ AW := AW_in 689 (by decide +kernel) (by decide +kernel)
theorem wm_L_166 : Cond.methodLink RL 166 yX9_setDemand ∈ AW := AW_in 1156 (by decide +kernel) (by decide +kernel)
theorem wm_L_167 : Cond.methodLink RL 167 yL_assign ∈ AW := AW_in 705 (by decide +kernel) (by decide +kernel)
theorem wm_L_169 : Cond.methodLink RL 169 yX9_assign ∈ AW := AW_in 1163 (by decide +kernel) (by decide +kernel)
theorem wm_L_170 : Cond.methodLink RL 170 yL_free ∈ AW := AW_in 715 (by decide +kernel) (by decide +kernel)
theorem wm_L_172 : Cond.methodLink RL 172 yX9_free ∈ AW := AW_in 1171 (by decide +kernel) (by decide +kernel)
theorem wm_L_173 : Cond.methodLink RL 173 yL_setAbsent ∈ AW := AW_in 723 (by decide +kernel) (by decide +kernel)
theorem wm_L_176 : Cond.methodLink RL 176 yX9_setAbsent ∈ AW := AW_in 1175 (by decide +kernel) (by decide +kernel)
theorem wm_L_177 : Cond.methodLink RL 177 yL_shiftOf ∈ AW := AW_in 735 (by decide +kernel) (by decide +kernel)
theorem wm_L_179 : Cond.methodLink RL 179 yX9_shiftOf ∈ AW := AW_in 1179 (by decide +kernel) (by decide +kernel)
theorem wm_L_180 : Cond.methodLink RL 180 yL_restBefore ∈ AW := AW_in 742 (by decide +kernel) (by decide +kernel)
theorem wm_L_182 : Cond.methodLink RL 182 yX9_restBefore ∈ AW := AW_in 1183 (by decide +kernel) (by decide +kernel)
theorem wm_L_183 : Cond.methodLink RL 183 yL_longestNights ∈ AW := AW_in 756 (by decide +kernel) (by decide +kernel)
theorem wm_L_185 : Cond.methodLink RL 185 yX9_longestNights ∈ AW := AW_in 1195 (by decide +kernel) (by decide +kernel)
theorem wm_L_186 : Cond.methodLink RL 186 yL_longestByRows ∈ AW := AW_in 763 (by decide +kernel) (by decide +kernel)
theorem wm_L_188 : Cond.methodLink RL 188 yX9_longestByRows ∈ AW := AW_in 1203 (by decide +kernel) (by decide +kernel)
theorem wm_L_189 : Cond.methodLink RL 189 yL_peak ∈ AW := AW_in 770 (by decide +kernel) (by decide +kernel)
theorem wm_L_191 : Cond.methodLink RL 191 yX9_peak ∈ AW := AW_in 1208 (by decide +kernel) (by decide +kernel)
theorem wm_L_192 : Cond.methodLink RL 192 yL_peakByAdding ∈ AW := AW_in 777 (by decide +kernel) (by decide +kernel)
theorem wm_L_194 : Cond.methodLink RL 194 yX9_peakByAdding ∈ AW := AW_in 1216 (by decide +kernel) (by decide +kernel)
theorem wm_L_195 : Cond.methodLink RL 195 yX8_breaches ∈ AW := AW_in 243 (by decide +kernel) (by decide +kernel)
theorem wm_L_198 : Cond.methodLink RL 198 yX9_breaches ∈ AW := AW_in 1221 (by decide +kernel) (by decide +kernel)
theorem wm_L_199 : Cond.methodLink RL 199 yL_breachKind ∈ AW := AW_in 784 (by decide +kernel) (by decide +kernel)
theorem wm_L_201 : Cond.methodLink RL 201 yX9_breachKind ∈ AW := AW_in 1252 (by decide +kernel) (by decide +kernel)
theorem wm_L_202 : Cond.methodLink RL 202 yL_breachPerson ∈ AW := AW_in 847 (by decide +kernel) (by decide +kernel)
theorem wm_L_204 : Cond.methodLink RL 204 yX9_breachPerson ∈ AW := AW_in 1260 (by decide +kernel) (by decide +kernel)
theorem wm_L_205 : Cond.methodLink RL 205 yL_breachDay ∈ AW := AW_in 855 (by decide +kernel) (by decide +kernel)
theorem wm_L_207 : Cond.methodLink RL 207 yX9_breachDay ∈ AW := AW_in 1264 (by decide +kernel) (by decide +kernel)
theorem wm_L_208 : Cond.methodLink RL 208 yL_breachShift ∈ AW := AW_in 863 (by decide +kernel) (by decide +kernel)
theorem wm_L_210 : Cond.methodLink RL 210 yX9_breachShift ∈ AW := AW_in 1268 (by decide +kernel) (by decide +kernel)
theorem wm_L_211 : Cond.methodLink RL 211 yL_mostBreaches ∈ AW := AW_in 873 (by decide +kernel) (by decide +kernel)
theorem wm_L_213 : Cond.methodLink RL 213 yX9_mostBreaches ∈ AW := AW_in 1272 (by decide +kernel) (by decide +kernel)
theorem wm_L_214 : Cond.methodLink RL 214 yL_swap ∈ AW := AW_in 885 (by decide +kernel) (by decide +kernel)
theorem wm_L_216 : Cond.methodLink RL 216 yX9_swap ∈ AW := AW_in 1280 (by decide +kernel) (by decide +kernel)
theorem wm_L_217 : Cond.methodLink RL 217 yL_partner ∈ AW := AW_in 925 (by decide +kernel) (by decide +kernel)
theorem wm_L_219 : Cond.methodLink RL 219 yX9_partner ∈ AW := AW_in 1296 (by decide +kernel) (by decide +kernel)
theorem wm_L_220 : Cond.methodLink RL 220 yL_leastChanges ∈ AW := AW_in 933 (by decide +kernel) (by decide +kernel)
theorem wm_L_222 : Cond.methodLink RL 222 yX9_leastChanges ∈ AW := AW_in 1304 (by decide +kernel) (by decide +kernel)
theorem wm_L_223 : Cond.methodLink RL 223 yL_leastByTrial ∈ AW := AW_in 944 (by decide +kernel) (by decide +kernel)
theorem wm_L_225 : Cond.methodLink RL 225 yX9_leastByTrial ∈ AW := AW_in 1320 (by decide +kernel) (by decide +kernel)
theorem wm_L_226 : Cond.methodLink RL 226 yL_mend ∈ AW := AW_in 951 (by decide +kernel) (by decide +kernel)
theorem wm_L_228 : Cond.methodLink RL 228 yX9_mend ∈ AW := AW_in 1325 (by decide +kernel) (by decide +kernel)
theorem wm_L_229 : Cond.methodLink RL 229 yL_changedCell ∈ AW := AW_in 967 (by decide +kernel) (by decide +kernel)
theorem wm_L_231 : Cond.methodLink RL 231 yX9_changedCell ∈ AW := AW_in 1329 (by decide +kernel) (by decide +kernel)
theorem wm_L_232 : Cond.methodLink RL 232 yL_changedValue ∈ AW := AW_in 979 (by decide +kernel) (by decide +kernel)
theorem wm_L_234 : Cond.methodLink RL 234 yX9_changedValue ∈ AW := AW_in 1333 (by decide +kernel) (by decide +kernel)
theorem wm_L_235 : Cond.methodLink RL 235 yX8_minutes ∈ AW := AW_in 329 (by decide +kernel) (by decide +kernel)
theorem wm_L_239 : Cond.methodLink RL 239 yX9_minutes ∈ AW := AW_in 1337 (by decide +kernel) (by decide +kernel)
theorem wm_L_240 : Cond.methodLink RL 240 yL_workShare ∈ AW := AW_in 986 (by decide +kernel) (by decide +kernel)
theorem wm_L_243 : Cond.methodLink RL 243 yX9_workShare ∈ AW := AW_in 1341 (by decide +kernel) (by decide +kernel)
theorem wm_L_244 : Cond.methodLink RL 244 yL_meanRest ∈ AW := AW_in 994 (by decide +kernel) (by decide +kernel)
theorem wm_L_246 : Cond.methodLink RL 246 yX9_meanRest ∈ AW := AW_in 1346 (by decide +kernel) (by decide +kernel)
theorem wm_L_247 : Cond.methodLink RL 247 yX8_isSound ∈ AW := AW_in 339 (by decide +kernel) (by decide +kernel)
theorem wm_L_251 : Cond.methodLink RL 251 yX9_isSound ∈ AW := AW_in 1350 (by decide +kernel) (by decide +kernel)
theorem wm_X9_3 : Cond.methodLink RX9 3 objectInit ∈ AW := AW_in 1023 (by decide +kernel) (by decide +kernel)
theorem wf_X9_9 : Cond.fieldLink RX9 9 (TX9 3).1 (TX9 3).2.1 (TX9 3).2.2.1 ∈ AW := AW_in 1027 (by decide +kernel) (by decide +kernel)
theorem wf_X9_13 : Cond.fieldLink RX9 13 (TX9 4).1 (TX9 4).2.1 (TX9 4).2.2.1 ∈ AW := AW_in 1028 (by decide +kernel) (by decide +kernel)
theorem wf_X9_16 : Cond.fieldLink RX9 16 (TX9 5).1 (TX9 5).2.1 (TX9 5).2.2.1 ∈ AW := AW_in 1029 (by decide +kernel) (by decide +kernel)
theorem wf_X9_19 : Cond.fieldLink RX9 19 (TX9 6).1 (TX9 6).2.1 (TX9 6).2.2.1 ∈ AW := AW_in 1030 (by decide +kernel) (by decide +kernel)
theorem wf_X9_23 : Cond.fieldLink RX9 23 (TX9 7).1 (TX9 7).2.1 (TX9 7).2.2.1 ∈ AW := AW_in 1031 (by decide +kernel) (by decide +kernel)
theorem wf_X9_26 : Cond.fieldLink RX9 26 (TX9 8).1 (TX9 8).2.1 (TX9 8).2.2.1 ∈ AW := AW_in 1032 (by decide +kernel) (by decide +kernel)
theorem wf_X9_29 : Cond.fieldLink RX9 29 (TX9 9).1 (TX9 9).2.1 (TX9 9).2.2.1 ∈ AW := AW_in 1033 (by decide +kernel) (by decide +kernel)
theorem wf_X9_33 : Cond.fieldLink RX9 33 (TX9 10).1 (TX9 10).2.1 (TX9 10).2.2.1 ∈ AW := AW_in 1034 (by decide +kernel) (by decide +kernel)
theorem wf_X9_36 : Cond.fieldLink RX9 36 (TX9 11).1 (TX9 11).2.1 (TX9 11).2.2.1 ∈ AW := AW_in 1035 (by decide +kernel) (by decide +kernel)
theorem wf_X9_39 : Cond.fieldLink RX9 39 (TX9 12).1 (TX9 12).2.1 (TX9 12).2.2.1 ∈ AW := AW_in 1036 (by decide +kernel) (by decide +kernel)
theorem wf_X9_42 : Cond.fieldLink RX9 42 (TX9 13).1 (TX9 13).2.1 (TX9 13).2.2.1 ∈ AW := AW_in 1037 (by decide +kernel) (by decide +kernel)
theorem wf_X9_45 : Cond.fieldLink RX9 45 (TX9 15).1 (TX9 15).2.1 (TX9 15).2.2.1 ∈ AW := AW_in 1039 (by decide +kernel) (by decide +kernel)
theorem wf_X9_49 : Cond.fieldLink RX9 49 (TX9 16).1 (TX9 16).2.1 (TX9 16).2.2.1 ∈ AW := AW_in 1040 (by decide +kernel) (by decide +kernel)
theorem wf_X9_52 : Cond.fieldLink RX9 52 (TX9 17).1 (TX9 17).2.1 (TX9 17).2.2.1 ∈ AW := AW_in 1041 (by decide +kernel) (by decide +kernel)
theorem wf_X9_55 : Cond.fieldLink RX9 55 (TX9 18).1 (TX9 18).2.1 (TX9 18).2.2.1 ∈ AW := AW_in 1042 (by decide +kernel) (by decide +kernel)
theorem wf_X9_58 : Cond.fieldLink RX9 58 (TX9 19).1 (TX9 19).2.1 (TX9 19).2.2.1 ∈ AW := AW_in 1043 (by decide +kernel) (by decide +kernel)
theorem wf_X9_61 : Cond.fieldLink RX9 61 (TX9 20).1 (TX9 20).2.1 (TX9 20).2.2.1 ∈ AW := AW_in 1044 (by decide +kernel) (by decide +kernel)
theorem wf_X9_64 : Cond.fieldLink RX9 64 (TX9 21).1 (TX9 21).2.1 (TX9 21).2.2.1 ∈ AW := AW_in 1045 (by decide +kernel) (by decide +kernel)
theorem wf_X9_67 : Cond.fieldLink RX9 67 (TX9 23).1 (TX9 23).2.1 (TX9 23).2.2.1 ∈ AW := AW_in 1047 (by decide +kernel) (by decide +kernel)
theorem wf_X9_70 : Cond.fieldLink RX9 70 (TX9 24).1 (TX9 24).2.1 (TX9 24).2.2.1 ∈ AW := AW_in 1048 (by decide +kernel) (by decide +kernel)
theorem wf_X9_73 : Cond.fieldLink RX9 73 (TX9 0).1 (TX9 0).2.1 (TX9 0).2.2.1 ∈ AW := AW_in 1024 (by decide +kernel) (by decide +kernel)
theorem wf_X9_76 : Cond.fieldLink RX9 76 (TX9 1).1 (TX9 1).2.1 (TX9 1).2.2.1 ∈ AW := AW_in 1025 (by decide +kernel) (by decide +kernel)
theorem wm_X9_79 : Cond.methodLink RX9 79 yX9_in ∈ AW := AW_in 1117 (by decide +kernel) (by decide +kernel)
theorem wf_X9_83 : Cond.fieldLink RX9 83 (TX9 2).1 (TX9 2).2.1 (TX9 2).2.2.1 ∈ AW := AW_in 1026 (by decide +kernel) (by decide +kernel)
theorem wm_X9_86 : Cond.methodLink RX9 86 yX9_at ∈ AW := AW_in 1167 (by decide +kernel) (by decide +kernel)
theorem wm_X9_90 : Cond.methodLink RX9 90 yX9_lastBefore ∈ AW := AW_in 1187 (by decide +kernel) (by decide +kernel)
theorem wm_X9_93 : Cond.methodLink RX9 93 yX9_minutesBefore ∈ AW := AW_in 1191 (by decide +kernel) (by decide +kernel)
theorem wm_X9_96 : Cond.methodLink RX9 96 yX9_isNightShift ∈ AW := AW_in 1128 (by decide +kernel) (by decide +kernel)
theorem wm_X9_100 : Cond.methodLink RX9 100 yX9_isRestShort ∈ AW := AW_in 1233 (by decide +kernel) (by decide +kernel)
theorem wm_X9_104 : Cond.methodLink RX9 104 yX9_isRow ∈ AW := AW_in 1237 (by decide +kernel) (by decide +kernel)
theorem wm_X9_108 : Cond.methodLink RX9 108 yX9_sumFrom ∈ AW := AW_in 1212 (by decide +kernel) (by decide +kernel)
theorem wf_X9_112 : Cond.fieldLink RX9 112 (TX9 14).1 (TX9 14).2.1 (TX9 14).2.2.1 ∈ AW := AW_in 1038 (by decide +kernel) (by decide +kernel)
theorem wm_X9_115 : Cond.methodLink RX9 115 yX9_isBreach ∈ AW := AW_in 1229 (by decide +kernel) (by decide +kernel)
theorem wm_X9_118 : Cond.methodLink RX9 118 yX9_letter ∈ AW := AW_in 1241 (by decide +kernel) (by decide +kernel)
theorem wm_X9_122 : Cond.methodLink RX9 122 yX9_tells ∈ AW := AW_in 1244 (by decide +kernel) (by decide +kernel)
theorem wm_X9_126 : Cond.methodLink RX9 126 yX9_onShift ∈ AW := AW_in 1248 (by decide +kernel) (by decide +kernel)
theorem wm_X9_129 : Cond.methodLink RX9 129 yX9_goesOn ∈ AW := AW_in 1109 (by decide +kernel) (by decide +kernel)
theorem wm_X9_132 : Cond.methodLink RX9 132 yX9_isShift ∈ AW := AW_in 1124 (by decide +kernel) (by decide +kernel)
theorem wm_X9_135 : Cond.methodLink RX9 135 yX9_isPerson ∈ AW := AW_in 1136 (by decide +kernel) (by decide +kernel)
theorem wm_X9_138 : Cond.methodLink RX9 138 yX9_isDay ∈ AW := AW_in 1160 (by decide +kernel) (by decide +kernel)
theorem wm_X9_141 : Cond.methodLink RX9 141 yX9_rowOf ∈ AW := AW_in 1199 (by decide +kernel) (by decide +kernel)
theorem wm_X9_145 : Cond.methodLink RX9 145 yX9_longestNights ∈ AW := AW_in 1207 (by decide +kernel) (by decide +kernel)
theorem wm_X9_148 : Cond.methodLink RX9 148 yX9_peak ∈ AW := AW_in 1220 (by decide +kernel) (by decide +kernel)
theorem wm_X9_151 : Cond.methodLink RX9 151 yX9_tellsAll ∈ AW := AW_in 1225 (by decide +kernel) (by decide +kernel)
theorem wm_X9_154 : Cond.methodLink RX9 154 yX9_tells_ ∈ AW := AW_in 1256 (by decide +kernel) (by decide +kernel)
theorem wm_X9_156 : Cond.methodLink RX9 156 yX9_breachesOf ∈ AW := AW_in 1276 (by decide +kernel) (by decide +kernel)
theorem wm_X9_159 : Cond.methodLink RX9 159 yX9_placeOf ∈ AW := AW_in 1288 (by decide +kernel) (by decide +kernel)
theorem wm_X9_162 : Cond.methodLink RX9 162 yX9_exchanges ∈ AW := AW_in 1292 (by decide +kernel) (by decide +kernel)
theorem wm_X9_166 : Cond.methodLink RX9 166 yX9_isFair ∈ AW := AW_in 1284 (by decide +kernel) (by decide +kernel)
theorem wm_X9_169 : Cond.methodLink RX9 169 yX9_partnerOf ∈ AW := AW_in 1300 (by decide +kernel) (by decide +kernel)
theorem wm_X9_172 : Cond.methodLink RX9 172 yX9_isLawful ∈ AW := AW_in 1316 (by decide +kernel) (by decide +kernel)
theorem wm_X9_176 : Cond.methodLink RX9 176 yX9_mends ∈ AW := AW_in 1312 (by decide +kernel) (by decide +kernel)
theorem wm_X9_179 : Cond.methodLink RX9 179 yX9_leastSize ∈ AW := AW_in 1308 (by decide +kernel) (by decide +kernel)
theorem wm_X9_183 : Cond.methodLink RX9 183 yX9_leastChanges ∈ AW := AW_in 1324 (by decide +kernel) (by decide +kernel)
theorem wf_X9_186 : Cond.fieldLink RX9 186 (TX9 22).1 (TX9 22).2.1 (TX9 22).2.2.1 ∈ AW := AW_in 1046 (by decide +kernel) (by decide +kernel)
theorem wk_X9_189 : Cond.constantFloat RX9 189 (1090519040) ∈ AW := AW_in 1345 (by decide +kernel) (by decide +kernel)
theorem wk_J6_265 : Cond.constant RJ6 265 (1431655765) ∈ AW := AW_in 320 (by decide +kernel) (by decide +kernel)
theorem wk_J6_266 : Cond.constant RJ6 266 (858993459) ∈ AW := AW_in 321 (by decide +kernel) (by decide +kernel)
theorem wk_J6_267 : Cond.constant RJ6 267 (252645135) ∈ AW := AW_in 322 (by decide +kernel) (by decide +kernel)
theorem wk_J13_314 : Cond.constantLong RJ13 314 (6148914691236517205) ∈ AW := AW_in 326 (by decide +kernel) (by decide +kernel)
theorem wk_J13_316 : Cond.constantLong RJ13 316 (3689348814741910323) ∈ AW := AW_in 327 (by decide +kernel) (by decide +kernel)
theorem wk_J13_318 : Cond.constantLong RJ13 318 (1085102592571150095) ∈ AW := AW_in 328 (by decide +kernel) (by decide +kernel)
theorem wm_J0_335 : Cond.methodLink RJ0 335 yJ0_coder_7d493 ∈ AW := AW_in 803 (by decide +kernel) (by decide +kernel)
theorem wm_J0_492 : Cond.methodLink RJ0 492 yJ0_isLatin1_aae02 ∈ AW := AW_in 813 (by decide +kernel) (by decide +kernel)
theorem wm_J0_495 : Cond.methodLink RJ0 495 yJ1_charAt_3b067 ∈ AW := AW_in 817 (by decide +kernel) (by decide +kernel)
theorem wm_J0_498 : Cond.methodLink RJ0 498 yJ2_charAt_3b067 ∈ AW := AW_in 828 (by decide +kernel) (by decide +kernel)
theorem wm_J0_1059 : Cond.methodLink RJ0 1059 yJ3_checkIndex_8e157 ∈ AW := AW_in 825 (by decide +kernel) (by decide +kernel)
theorem wm_J1_9 : Cond.methodLink RJ1 9 yJ0_checkIndex_df160 ∈ AW := AW_in 820 (by decide +kernel) (by decide +kernel)
theorem wm_J2_48 : Cond.methodLink RJ2 48 yJ2_length_9d52b ∈ AW := AW_in 834 (by decide +kernel) (by decide +kernel)
theorem wm_J2_67 : Cond.methodLink RJ2 67 yJ2_checkIndex_2214a ∈ AW := AW_in 831 (by decide +kernel) (by decide +kernel)
theorem wm_J2_71 : Cond.methodLink RJ2 71 yJ2_getChar_3b067 ∈ AW := AW_in 838 (by decide +kernel) (by decide +kernel)
theorem wm_J2_414 : Cond.methodLink RJ2 414 yJ0_checkIndex_df160 ∈ AW := AW_in 837 (by decide +kernel) (by decide +kernel)
theorem wc_J0_charAt_5068e : Cond.code yJ0_charAt_5068e cJ0_charAt_5068e 2 (some .char) ∈ AW := AW_in 812 (by decide +kernel) (by decide +kernel)
theorem wi_J0_charAt_5068e : Cond.instanceMethod yJ0_charAt_5068e ∈ AW := AW_in 810 (by decide +kernel) (by decide +kernel)
theorem wl_J0_charAt_5068e : Cond.selects RJ0 yJ0_charAt_5068e yJ0_charAt_5068e ∈ AW := AW_in 811 (by decide +kernel) (by decide +kernel)
theorem np_J0_charAt_5068e : yJ0_charAt_5068e.cls ≠ "java/lang/invoke/MethodHandle" ∧ yJ0_charAt_5068e.cls ≠ "java/lang/invoke/VarHandle" ∧ (parseMethodDescriptor yJ0_charAt_5068e.desc).map (fun d => d.parameters.length) = some 1 := ⟨by decide +kernel, by decide +kernel, by decide +kernel⟩
theorem wc_J0_checkIndex_df160 : Cond.code yJ0_checkIndex_df160 cJ0_checkIndex_df160 2 none ∈ AW := AW_in 822 (by decide +kernel) (by decide +kernel)
theorem ws_J0_checkIndex_df160 : Cond.static yJ0_checkIndex_df160 ∈ AW := AW_in 821 (by decide +kernel) (by decide +kernel)
theorem np_J0_checkIndex_df160 : yJ0_checkIndex_df160.cls ≠ "java/lang/invoke/MethodHandle" ∧ yJ0_checkIndex_df160.cls ≠ "java/lang/invoke/VarHandle" ∧ (parseMethodDescriptor yJ0_checkIndex_df160.desc).map (fun d => d.parameters.length) = some 2 := ⟨by decide +kernel, by decide +kernel, by decide +kernel⟩
theorem wc_J0_coder_7d493 : Cond.code yJ0_coder_7d493 cJ0_coder_7d493 1 (some .byte) ∈ AW := AW_in 806 (by decide +kernel) (by decide +kernel)
theorem wi_J0_coder_7d493 : Cond.instanceMethod yJ0_coder_7d493 ∈ AW := AW_in 804 (by decide +kernel) (by decide +kernel)
theorem wl_J0_coder_7d493 : Cond.selects RJ0 yJ0_coder_7d493 yJ0_coder_7d493 ∈ AW := AW_in 805 (by decide +kernel) (by decide +kernel)
theorem np_J0_coder_7d493 : yJ0_coder_7d493.cls ≠ "java/lang/invoke/MethodHandle" ∧ yJ0_coder_7d493.cls ≠ "java/lang/invoke/VarHandle" ∧ (parseMethodDescriptor yJ0_coder_7d493.desc).map (fun d => d.parameters.length) = some 0 := ⟨by decide +kernel, by decide +kernel, by decide +kernel⟩
theorem wc_J0_isLatin1_aae02 : Cond.code yJ0_isLatin1_aae02 cJ0_isLatin1_aae02 1 (some .boolean) ∈ AW := AW_in 816 (by decide +kernel) (by decide +kernel)
theorem wi_J0_isLatin1_aae02 : Cond.instanceMethod yJ0_isLatin1_aae02 ∈ AW := AW_in 814 (by decide +kernel) (by decide +kernel)
theorem wl_J0_isLatin1_aae02 : Cond.selects RJ0 yJ0_isLatin1_aae02 yJ0_isLatin1_aae02 ∈ AW := AW_in 815 (by decide +kernel) (by decide +kernel)
theorem np_J0_isLatin1_aae02 : yJ0_isLatin1_aae02.cls ≠ "java/lang/invoke/MethodHandle" ∧ yJ0_isLatin1_aae02.cls ≠ "java/lang/invoke/VarHandle" ∧ (parseMethodDescriptor yJ0_isLatin1_aae02.desc).map (fun d => d.parameters.length) = some 0 := ⟨by decide +kernel, by decide +kernel, by decide +kernel⟩
theorem wc_J0_length_8abf5 : Cond.code yJ0_length_8abf5 cJ0_length_8abf5 1 (some .int) ∈ AW := AW_in 802 (by decide +kernel) (by decide +kernel)
theorem wi_J0_length_8abf5 : Cond.instanceMethod yJ0_length_8abf5 ∈ AW := AW_in 800 (by decide +kernel) (by decide +kernel)
theorem wl_J0_length_8abf5 : Cond.selects RJ0 yJ0_length_8abf5 yJ0_length_8abf5 ∈ AW := AW_in 801 (by decide +kernel) (by decide +kernel)
theorem np_J0_length_8abf5 : yJ0_length_8abf5.cls ≠ "java/lang/invoke/MethodHandle" ∧ yJ0_length_8abf5.cls ≠ "java/lang/invoke/VarHandle" ∧ (parseMethodDescriptor yJ0_length_8abf5.desc).map (fun d => d.parameters.length) = some 0 := ⟨by decide +kernel, by decide +kernel, by decide +kernel⟩
theorem wc_J13_bitCount_95d88 : Cond.code yJ13_bitCount_95d88 cJ13_bitCount_95d88 2 (some .int) ∈ AW := AW_in 325 (by decide +kernel) (by decide +kernel)
theorem ws_J13_bitCount_95d88 : Cond.static yJ13_bitCount_95d88 ∈ AW := AW_in 324 (by decide +kernel) (by decide +kernel)
theorem np_J13_bitCount_95d88 : yJ13_bitCount_95d88.cls ≠ "java/lang/invoke/MethodHandle" ∧ yJ13_bitCount_95d88.cls ≠ "java/lang/invoke/VarHandle" ∧ (parseMethodDescriptor yJ13_bitCount_95d88.desc).map (fun d => d.parameters.length) = some 1 := ⟨by decide +kernel, by decide +kernel, by decide +kernel⟩
theorem wc_J1_charAt_3b067 : Cond.code yJ1_charAt_3b067 cJ1_charAt_3b067 2 (some .char) ∈ AW := AW_in 819 (by decide +kernel) (by decide +kernel)
theorem ws_J1_charAt_3b067 : Cond.static yJ1_charAt_3b067 ∈ AW := AW_in 818 (by decide +kernel) (by decide +kernel)
theorem np_J1_charAt_3b067 : yJ1_charAt_3b067.cls ≠ "java/lang/invoke/MethodHandle" ∧ yJ1_charAt_3b067.cls ≠ "java/lang/invoke/VarHandle" ∧ (parseMethodDescriptor yJ1_charAt_3b067.desc).map (fun d => d.parameters.length) = some 2 := ⟨by decide +kernel, by decide +kernel, by decide +kernel⟩
theorem wc_J2_charAt_3b067 : Cond.code yJ2_charAt_3b067 cJ2_charAt_3b067 2 (some .char) ∈ AW := AW_in 830 (by decide +kernel) (by decide +kernel)
theorem ws_J2_charAt_3b067 : Cond.static yJ2_charAt_3b067 ∈ AW := AW_in 829 (by decide +kernel) (by decide +kernel)
theorem np_J2_charAt_3b067 : yJ2_charAt_3b067.cls ≠ "java/lang/invoke/MethodHandle" ∧ yJ2_charAt_3b067.cls ≠ "java/lang/invoke/VarHandle" ∧ (parseMethodDescriptor yJ2_charAt_3b067.desc).map (fun d => d.parameters.length) = some 2 := ⟨by decide +kernel, by decide +kernel, by decide +kernel⟩
theorem wc_J2_checkIndex_2214a : Cond.code yJ2_checkIndex_2214a cJ2_checkIndex_2214a 2 none ∈ AW := AW_in 833 (by decide +kernel) (by decide +kernel)
theorem ws_J2_checkIndex_2214a : Cond.static yJ2_checkIndex_2214a ∈ AW := AW_in 832 (by decide +kernel) (by decide +kernel)
theorem np_J2_checkIndex_2214a : yJ2_checkIndex_2214a.cls ≠ "java/lang/invoke/MethodHandle" ∧ yJ2_checkIndex_2214a.cls ≠ "java/lang/invoke/VarHandle" ∧ (parseMethodDescriptor yJ2_checkIndex_2214a.desc).map (fun d => d.parameters.length) = some 2 := ⟨by decide +kernel, by decide +kernel, by decide +kernel⟩
theorem wc_J2_getChar_3b067 : Cond.code yJ2_getChar_3b067 cJ2_getChar_3b067 2 (some .char) ∈ AW := AW_in 840 (by decide +kernel) (by decide +kernel)
theorem ws_J2_getChar_3b067 : Cond.static yJ2_getChar_3b067 ∈ AW := AW_in 839 (by decide +kernel) (by decide +kernel)
theorem np_J2_getChar_3b067 : yJ2_getChar_3b067.cls ≠ "java/lang/invoke/MethodHandle" ∧ yJ2_getChar_3b067.cls ≠ "java/lang/invoke/VarHandle" ∧ (parseMethodDescriptor yJ2_getChar_3b067.desc).map (fun d => d.parameters.length) = some 2 := ⟨by decide +kernel, by decide +kernel, by decide +kernel⟩
theorem wc_J2_length_9d52b : Cond.code yJ2_length_9d52b cJ2_length_9d52b 1 (some .int) ∈ AW := AW_in 836 (by decide +kernel) (by decide +kernel)
theorem ws_J2_length_9d52b : Cond.static yJ2_length_9d52b ∈ AW := AW_in 835 (by decide +kernel) (by decide +kernel)
theorem np_J2_length_9d52b : yJ2_length_9d52b.cls ≠ "java/lang/invoke/MethodHandle" ∧ yJ2_length_9d52b.cls ≠ "java/lang/invoke/VarHandle" ∧ (parseMethodDescriptor yJ2_length_9d52b.desc).map (fun d => d.parameters.length) = some 1 := ⟨by decide +kernel, by decide +kernel, by decide +kernel⟩
theorem wc_J3_checkIndex_8e157 : Cond.code yJ3_checkIndex_8e157 cJ3_checkIndex_8e157 3 (some .int) ∈ AW := AW_in 827 (by decide +kernel) (by decide +kernel)
theorem ws_J3_checkIndex_8e157 : Cond.static yJ3_checkIndex_8e157 ∈ AW := AW_in 826 (by decide +kernel) (by decide +kernel)
theorem np_J3_checkIndex_8e157 : yJ3_checkIndex_8e157.cls ≠ "java/lang/invoke/MethodHandle" ∧ yJ3_checkIndex_8e157.cls ≠ "java/lang/invoke/VarHandle" ∧ (parseMethodDescriptor yJ3_checkIndex_8e157.desc).map (fun d => d.parameters.length) = some 3 := ⟨by decide +kernel, by decide +kernel, by decide +kernel⟩
theorem wc_J6_bitCount_0f7a4 : Cond.code yJ6_bitCount_0f7a4 cJ6_bitCount_0f7a4 1 (some .int) ∈ AW := AW_in 319 (by decide +kernel) (by decide +kernel)
theorem ws_J6_bitCount_0f7a4 : Cond.static yJ6_bitCount_0f7a4 ∈ AW := AW_in 318 (by decide +kernel) (by decide +kernel)
theorem np_J6_bitCount_0f7a4 : yJ6_bitCount_0f7a4.cls ≠ "java/lang/invoke/MethodHandle" ∧ yJ6_bitCount_0f7a4.cls ≠ "java/lang/invoke/VarHandle" ∧ (parseMethodDescriptor yJ6_bitCount_0f7a4.desc).map (fun d => d.parameters.length) = some 1 := ⟨by decide +kernel, by decide +kernel, by decide +kernel⟩
theorem wc_J9_max_7cf53 : Cond.code yJ9_max_7cf53 cJ9_max_7cf53 2 (some .int) ∈ AW := AW_in 354 (by decide +kernel) (by decide +kernel)
theorem ws_J9_max_7cf53 : Cond.static yJ9_max_7cf53 ∈ AW := AW_in 353 (by decide +kernel) (by decide +kernel)
theorem np_J9_max_7cf53 : yJ9_max_7cf53.cls ≠ "java/lang/invoke/MethodHandle" ∧ yJ9_max_7cf53.cls ≠ "java/lang/invoke/VarHandle" ∧ (parseMethodDescriptor yJ9_max_7cf53.desc).map (fun d => d.parameters.length) = some 2 := ⟨by decide +kernel, by decide +kernel, by decide +kernel⟩
theorem wc_Jx00060_init_a7421 : Cond.code yJx00060_init_a7421 cJx00060_init_a7421 2 none ∈ AW := AW_in 610 (by decide +kernel) (by decide +kernel)
theorem wi_Jx00060_init_a7421 : Cond.instanceMethod yJx00060_init_a7421 ∈ AW := AW_in 609 (by decide +kernel) (by decide +kernel)
theorem np_Jx00060_init_a7421 : yJx00060_init_a7421.cls ≠ "java/lang/invoke/MethodHandle" ∧ yJx00060_init_a7421.cls ≠ "java/lang/invoke/VarHandle" ∧ (parseMethodDescriptor yJx00060_init_a7421.desc).map (fun d => d.parameters.length) = some 1 := ⟨by decide +kernel, by decide +kernel, by decide +kernel⟩
theorem ws_L_addPerson : Cond.static yL_addPerson ∈ AW := AW_in 460 (by decide +kernel) (by decide +kernel)
theorem np_L_addPerson : yL_addPerson.cls ≠ "java/lang/invoke/MethodHandle" ∧ yL_addPerson.cls ≠ "java/lang/invoke/VarHandle" ∧ (parseMethodDescriptor yL_addPerson.desc).map (fun d => d.parameters.length) = some 2 := ⟨by decide +kernel, by decide +kernel, by decide +kernel⟩
theorem ws_L_addShift : Cond.static yL_addShift ∈ AW := AW_in 540 (by decide +kernel) (by decide +kernel)
theorem np_L_addShift : yL_addShift.cls ≠ "java/lang/invoke/MethodHandle" ∧ yL_addShift.cls ≠ "java/lang/invoke/VarHandle" ∧ (parseMethodDescriptor yL_addShift.desc).map (fun d => d.parameters.length) = some 4 := ⟨by decide +kernel, by decide +kernel, by decide +kernel⟩
theorem ws_L_assign : Cond.static yL_assign ∈ AW := AW_in 706 (by decide +kernel) (by decide +kernel)
theorem np_L_assign : yL_assign.cls ≠ "java/lang/invoke/MethodHandle" ∧ yL_assign.cls ≠ "java/lang/invoke/VarHandle" ∧ (parseMethodDescriptor yL_assign.desc).map (fun d => d.parameters.length) = some 5 := ⟨by decide +kernel, by decide +kernel, by decide +kernel⟩
theorem ws_L_breachDay : Cond.static yL_breachDay ∈ AW := AW_in 856 (by decide +kernel) (by decide +kernel)
theorem np_L_breachDay : yL_breachDay.cls ≠ "java/lang/invoke/MethodHandle" ∧ yL_breachDay.cls ≠ "java/lang/invoke/VarHandle" ∧ (parseMethodDescriptor yL_breachDay.desc).map (fun d => d.parameters.length) = some 3 := ⟨by decide +kernel, by decide +kernel, by decide +kernel⟩
theorem ws_L_breachKind : Cond.static yL_breachKind ∈ AW := AW_in 785 (by decide +kernel) (by decide +kernel)
theorem np_L_breachKind : yL_breachKind.cls ≠ "java/lang/invoke/MethodHandle" ∧ yL_breachKind.cls ≠ "java/lang/invoke/VarHandle" ∧ (parseMethodDescriptor yL_breachKind.desc).map (fun d => d.parameters.length) = some 3 := ⟨by decide +kernel, by decide +kernel, by decide +kernel⟩
theorem ws_L_breachPerson : Cond.static yL_breachPerson ∈ AW := AW_in 848 (by decide +kernel) (by decide +kernel)
theorem np_L_breachPerson : yL_breachPerson.cls ≠ "java/lang/invoke/MethodHandle" ∧ yL_breachPerson.cls ≠ "java/lang/invoke/VarHandle" ∧ (parseMethodDescriptor yL_breachPerson.desc).map (fun d => d.parameters.length) = some 3 := ⟨by decide +kernel, by decide +kernel, by decide +kernel⟩
theorem ws_L_breachShift : Cond.static yL_breachShift ∈ AW := AW_in 864 (by decide +kernel) (by decide +kernel)
theorem np_L_breachShift : yL_breachShift.cls ≠ "java/lang/invoke/MethodHandle" ∧ yL_breachShift.cls ≠ "java/lang/invoke/VarHandle" ∧ (parseMethodDescriptor yL_breachShift.desc).map (fun d => d.parameters.length) = some 3 := ⟨by decide +kernel, by decide +kernel, by decide +kernel⟩
theorem ws_L_changedCell : Cond.static yL_changedCell ∈ AW := AW_in 968 (by decide +kernel) (by decide +kernel)
theorem np_L_changedCell : yL_changedCell.cls ≠ "java/lang/invoke/MethodHandle" ∧ yL_changedCell.cls ≠ "java/lang/invoke/VarHandle" ∧ (parseMethodDescriptor yL_changedCell.desc).map (fun d => d.parameters.length) = some 3 := ⟨by decide +kernel, by decide +kernel, by decide +kernel⟩
theorem ws_L_changedValue : Cond.static yL_changedValue ∈ AW := AW_in 980 (by decide +kernel) (by decide +kernel)
theorem np_L_changedValue : yL_changedValue.cls ≠ "java/lang/invoke/MethodHandle" ∧ yL_changedValue.cls ≠ "java/lang/invoke/VarHandle" ∧ (parseMethodDescriptor yL_changedValue.desc).map (fun d => d.parameters.length) = some 3 := ⟨by decide +kernel, by decide +kernel, by decide +kernel⟩
theorem ws_L_free : Cond.static yL_free ∈ AW := AW_in 716 (by decide +kernel) (by decide +kernel)
theorem np_L_free : yL_free.cls ≠ "java/lang/invoke/MethodHandle" ∧ yL_free.cls ≠ "java/lang/invoke/VarHandle" ∧ (parseMethodDescriptor yL_free.desc).map (fun d => d.parameters.length) = some 4 := ⟨by decide +kernel, by decide +kernel, by decide +kernel⟩
theorem ws_L_isNight : Cond.static yL_isNight ∈ AW := AW_in 572 (by decide +kernel) (by decide +kernel)
theorem np_L_isNight : yL_isNight.cls ≠ "java/lang/invoke/MethodHandle" ∧ yL_isNight.cls ≠ "java/lang/invoke/VarHandle" ∧ (parseMethodDescriptor yL_isNight.desc).map (fun d => d.parameters.length) = some 3 := ⟨by decide +kernel, by decide +kernel, by decide +kernel⟩
theorem ws_L_leastByTrial : Cond.static yL_leastByTrial ∈ AW := AW_in 945 (by decide +kernel) (by decide +kernel)
theorem np_L_leastByTrial : yL_leastByTrial.cls ≠ "java/lang/invoke/MethodHandle" ∧ yL_leastByTrial.cls ≠ "java/lang/invoke/VarHandle" ∧ (parseMethodDescriptor yL_leastByTrial.desc).map (fun d => d.parameters.length) = some 2 := ⟨by decide +kernel, by decide +kernel, by decide +kernel⟩
theorem ws_L_leastChanges : Cond.static yL_leastChanges ∈ AW := AW_in 934 (by decide +kernel) (by decide +kernel)
theorem np_L_leastChanges : yL_leastChanges.cls ≠ "java/lang/invoke/MethodHandle" ∧ yL_leastChanges.cls ≠ "java/lang/invoke/VarHandle" ∧ (parseMethodDescriptor yL_leastChanges.desc).map (fun d => d.parameters.length) = some 2 := ⟨by decide +kernel, by decide +kernel, by decide +kernel⟩
theorem ws_L_longestByRows : Cond.static yL_longestByRows ∈ AW := AW_in 764 (by decide +kernel) (by decide +kernel)
theorem np_L_longestByRows : yL_longestByRows.cls ≠ "java/lang/invoke/MethodHandle" ∧ yL_longestByRows.cls ≠ "java/lang/invoke/VarHandle" ∧ (parseMethodDescriptor yL_longestByRows.desc).map (fun d => d.parameters.length) = some 3 := ⟨by decide +kernel, by decide +kernel, by decide +kernel⟩
theorem ws_L_longestNights : Cond.static yL_longestNights ∈ AW := AW_in 757 (by decide +kernel) (by decide +kernel)
theorem np_L_longestNights : yL_longestNights.cls ≠ "java/lang/invoke/MethodHandle" ∧ yL_longestNights.cls ≠ "java/lang/invoke/VarHandle" ∧ (parseMethodDescriptor yL_longestNights.desc).map (fun d => d.parameters.length) = some 3 := ⟨by decide +kernel, by decide +kernel, by decide +kernel⟩
theorem ws_L_meanRest : Cond.static yL_meanRest ∈ AW := AW_in 995 (by decide +kernel) (by decide +kernel)
theorem np_L_meanRest : yL_meanRest.cls ≠ "java/lang/invoke/MethodHandle" ∧ yL_meanRest.cls ≠ "java/lang/invoke/VarHandle" ∧ (parseMethodDescriptor yL_meanRest.desc).map (fun d => d.parameters.length) = some 3 := ⟨by decide +kernel, by decide +kernel, by decide +kernel⟩
theorem ws_L_mend : Cond.static yL_mend ∈ AW := AW_in 952 (by decide +kernel) (by decide +kernel)
theorem np_L_mend : yL_mend.cls ≠ "java/lang/invoke/MethodHandle" ∧ yL_mend.cls ≠ "java/lang/invoke/VarHandle" ∧ (parseMethodDescriptor yL_mend.desc).map (fun d => d.parameters.length) = some 2 := ⟨by decide +kernel, by decide +kernel, by decide +kernel⟩
theorem ws_L_mostBreaches : Cond.static yL_mostBreaches ∈ AW := AW_in 874 (by decide +kernel) (by decide +kernel)
theorem np_L_mostBreaches : yL_mostBreaches.cls ≠ "java/lang/invoke/MethodHandle" ∧ yL_mostBreaches.cls ≠ "java/lang/invoke/VarHandle" ∧ (parseMethodDescriptor yL_mostBreaches.desc).map (fun d => d.parameters.length) = some 2 := ⟨by decide +kernel, by decide +kernel, by decide +kernel⟩
theorem ws_L_partner : Cond.static yL_partner ∈ AW := AW_in 926 (by decide +kernel) (by decide +kernel)
theorem np_L_partner : yL_partner.cls ≠ "java/lang/invoke/MethodHandle" ∧ yL_partner.cls ≠ "java/lang/invoke/VarHandle" ∧ (parseMethodDescriptor yL_partner.desc).map (fun d => d.parameters.length) = some 4 := ⟨by decide +kernel, by decide +kernel, by decide +kernel⟩
theorem ws_L_peak : Cond.static yL_peak ∈ AW := AW_in 771 (by decide +kernel) (by decide +kernel)
theorem np_L_peak : yL_peak.cls ≠ "java/lang/invoke/MethodHandle" ∧ yL_peak.cls ≠ "java/lang/invoke/VarHandle" ∧ (parseMethodDescriptor yL_peak.desc).map (fun d => d.parameters.length) = some 3 := ⟨by decide +kernel, by decide +kernel, by decide +kernel⟩
theorem ws_L_peakByAdding : Cond.static yL_peakByAdding ∈ AW := AW_in 778 (by decide +kernel) (by decide +kernel)
theorem np_L_peakByAdding : yL_peakByAdding.cls ≠ "java/lang/invoke/MethodHandle" ∧ yL_peakByAdding.cls ≠ "java/lang/invoke/VarHandle" ∧ (parseMethodDescriptor yL_peakByAdding.desc).map (fun d => d.parameters.length) = some 3 := ⟨by decide +kernel, by decide +kernel, by decide +kernel⟩
theorem ws_L_restBefore : Cond.static yL_restBefore ∈ AW := AW_in 743 (by decide +kernel) (by decide +kernel)
theorem np_L_restBefore : yL_restBefore.cls ≠ "java/lang/invoke/MethodHandle" ∧ yL_restBefore.cls ≠ "java/lang/invoke/VarHandle" ∧ (parseMethodDescriptor yL_restBefore.desc).map (fun d => d.parameters.length) = some 4 := ⟨by decide +kernel, by decide +kernel, by decide +kernel⟩
theorem ws_L_setAbsent : Cond.static yL_setAbsent ∈ AW := AW_in 724 (by decide +kernel) (by decide +kernel)
theorem np_L_setAbsent : yL_setAbsent.cls ≠ "java/lang/invoke/MethodHandle" ∧ yL_setAbsent.cls ≠ "java/lang/invoke/VarHandle" ∧ (parseMethodDescriptor yL_setAbsent.desc).map (fun d => d.parameters.length) = some 5 := ⟨by decide +kernel, by decide +kernel, by decide +kernel⟩
theorem ws_L_setDemand : Cond.static yL_setDemand ∈ AW := AW_in 690 (by decide +kernel) (by decide +kernel)
theorem np_L_setDemand : yL_setDemand.cls ≠ "java/lang/invoke/MethodHandle" ∧ yL_setDemand.cls ≠ "java/lang/invoke/VarHandle" ∧ (parseMethodDescriptor yL_setDemand.desc).map (fun d => d.parameters.length) = some 5 := ⟨by decide +kernel, by decide +kernel, by decide +kernel⟩
theorem ws_L_setHours : Cond.static yL_setHours ∈ AW := AW_in 683 (by decide +kernel) (by decide +kernel)
theorem np_L_setHours : yL_setHours.cls ≠ "java/lang/invoke/MethodHandle" ∧ yL_setHours.cls ≠ "java/lang/invoke/VarHandle" ∧ (parseMethodDescriptor yL_setHours.desc).map (fun d => d.parameters.length) = some 4 := ⟨by decide +kernel, by decide +kernel, by decide +kernel⟩
theorem ws_L_setNights : Cond.static yL_setNights ∈ AW := AW_in 669 (by decide +kernel) (by decide +kernel)
theorem np_L_setNights : yL_setNights.cls ≠ "java/lang/invoke/MethodHandle" ∧ yL_setNights.cls ≠ "java/lang/invoke/VarHandle" ∧ (parseMethodDescriptor yL_setNights.desc).map (fun d => d.parameters.length) = some 3 := ⟨by decide +kernel, by decide +kernel, by decide +kernel⟩
theorem ws_L_setRest : Cond.static yL_setRest ∈ AW := AW_in 662 (by decide +kernel) (by decide +kernel)
theorem np_L_setRest : yL_setRest.cls ≠ "java/lang/invoke/MethodHandle" ∧ yL_setRest.cls ≠ "java/lang/invoke/VarHandle" ∧ (parseMethodDescriptor yL_setRest.desc).map (fun d => d.parameters.length) = some 3 := ⟨by decide +kernel, by decide +kernel, by decide +kernel⟩
theorem ws_L_setRun : Cond.static yL_setRun ∈ AW := AW_in 676 (by decide +kernel) (by decide +kernel)
theorem np_L_setRun : yL_setRun.cls ≠ "java/lang/invoke/MethodHandle" ∧ yL_setRun.cls ≠ "java/lang/invoke/VarHandle" ∧ (parseMethodDescriptor yL_setRun.desc).map (fun d => d.parameters.length) = some 3 := ⟨by decide +kernel, by decide +kernel, by decide +kernel⟩
theorem ws_L_shiftOf : Cond.static yL_shiftOf ∈ AW := AW_in 736 (by decide +kernel) (by decide +kernel)
theorem np_L_shiftOf : yL_shiftOf.cls ≠ "java/lang/invoke/MethodHandle" ∧ yL_shiftOf.cls ≠ "java/lang/invoke/VarHandle" ∧ (parseMethodDescriptor yL_shiftOf.desc).map (fun d => d.parameters.length) = some 4 := ⟨by decide +kernel, by decide +kernel, by decide +kernel⟩
theorem ws_L_swap : Cond.static yL_swap ∈ AW := AW_in 886 (by decide +kernel) (by decide +kernel)
theorem np_L_swap : yL_swap.cls ≠ "java/lang/invoke/MethodHandle" ∧ yL_swap.cls ≠ "java/lang/invoke/VarHandle" ∧ (parseMethodDescriptor yL_swap.desc).map (fun d => d.parameters.length) = some 5 := ⟨by decide +kernel, by decide +kernel, by decide +kernel⟩
theorem ws_L_teach : Cond.static yL_teach ∈ AW := AW_in 605 (by decide +kernel) (by decide +kernel)
theorem np_L_teach : yL_teach.cls ≠ "java/lang/invoke/MethodHandle" ∧ yL_teach.cls ≠ "java/lang/invoke/VarHandle" ∧ (parseMethodDescriptor yL_teach.desc).map (fun d => d.parameters.length) = some 4 := ⟨by decide +kernel, by decide +kernel, by decide +kernel⟩
theorem ws_L_workShare : Cond.static yL_workShare ∈ AW := AW_in 987 (by decide +kernel) (by decide +kernel)
theorem np_L_workShare : yL_workShare.cls ≠ "java/lang/invoke/MethodHandle" ∧ yL_workShare.cls ≠ "java/lang/invoke/VarHandle" ∧ (parseMethodDescriptor yL_workShare.desc).map (fun d => d.parameters.length) = some 3 := ⟨by decide +kernel, by decide +kernel, by decide +kernel⟩
theorem wc_X0_cellAt : Cond.code yX0_cellAt cX0_cellAt 2 (some .int) ∈ AW := AW_in 961 (by decide +kernel) (by decide +kernel)
theorem wi_X0_cellAt : Cond.instanceMethod yX0_cellAt ∈ AW := AW_in 959 (by decide +kernel) (by decide +kernel)
theorem wl_X0_cellAt : Cond.selects RX0 yX0_cellAt yX0_cellAt ∈ AW := AW_in 960 (by decide +kernel) (by decide +kernel)
theorem np_X0_cellAt : yX0_cellAt.cls ≠ "java/lang/invoke/MethodHandle" ∧ yX0_cellAt.cls ≠ "java/lang/invoke/VarHandle" ∧ (parseMethodDescriptor yX0_cellAt.desc).map (fun d => d.parameters.length) = some 1 := ⟨by decide +kernel, by decide +kernel, by decide +kernel⟩
theorem wc_X0_init : Cond.code yX0_init cX0_init 1 none ∈ AW := AW_in 177 (by decide +kernel) (by decide +kernel)
theorem wi_X0_init : Cond.instanceMethod yX0_init ∈ AW := AW_in 176 (by decide +kernel) (by decide +kernel)
theorem np_X0_init : yX0_init.cls ≠ "java/lang/invoke/MethodHandle" ∧ yX0_init.cls ≠ "java/lang/invoke/VarHandle" ∧ (parseMethodDescriptor yX0_init.desc).map (fun d => d.parameters.length) = some 0 := ⟨by decide +kernel, by decide +kernel, by decide +kernel⟩
theorem wc_X0_put : Cond.code yX0_put cX0_put 4 none ∈ AW := AW_in 445 (by decide +kernel) (by decide +kernel)
theorem wi_X0_put : Cond.instanceMethod yX0_put ∈ AW := AW_in 443 (by decide +kernel) (by decide +kernel)
theorem wl_X0_put : Cond.selects RX0 yX0_put yX0_put ∈ AW := AW_in 444 (by decide +kernel) (by decide +kernel)
theorem np_X0_put : yX0_put.cls ≠ "java/lang/invoke/MethodHandle" ∧ yX0_put.cls ≠ "java/lang/invoke/VarHandle" ∧ (parseMethodDescriptor yX0_put.desc).map (fun d => d.parameters.length) = some 3 := ⟨by decide +kernel, by decide +kernel, by decide +kernel⟩
theorem wc_X0_valueAt : Cond.code yX0_valueAt cX0_valueAt 2 (some .int) ∈ AW := AW_in 965 (by decide +kernel) (by decide +kernel)
theorem wi_X0_valueAt : Cond.instanceMethod yX0_valueAt ∈ AW := AW_in 963 (by decide +kernel) (by decide +kernel)
theorem wl_X0_valueAt : Cond.selects RX0 yX0_valueAt yX0_valueAt ∈ AW := AW_in 964 (by decide +kernel) (by decide +kernel)
theorem np_X0_valueAt : yX0_valueAt.cls ≠ "java/lang/invoke/MethodHandle" ∧ yX0_valueAt.cls ≠ "java/lang/invoke/VarHandle" ∧ (parseMethodDescriptor yX0_valueAt.desc).map (fun d => d.parameters.length) = some 1 := ⟨by decide +kernel, by decide +kernel, by decide +kernel⟩
theorem wc_X1_bitIf : Cond.code yX1_bitIf cX1_bitIf 3 (some .long) ∈ AW := AW_in 272 (by decide +kernel) (by decide +kernel)
theorem ws_X1_bitIf : Cond.static yX1_bitIf ∈ AW := AW_in 271 (by decide +kernel) (by decide +kernel)
theorem np_X1_bitIf : yX1_bitIf.cls ≠ "java/lang/invoke/MethodHandle" ∧ yX1_bitIf.cls ≠ "java/lang/invoke/VarHandle" ∧ (parseMethodDescriptor yX1_bitIf.desc).map (fun d => d.parameters.length) = some 3 := ⟨by decide +kernel, by decide +kernel, by decide +kernel⟩
theorem wc_X1_breachesOf : Cond.code yX1_breachesOf cX1_breachesOf 12 (some .long) ∈ AW := AW_in 254 (by decide +kernel) (by decide +kernel)
theorem wi_X1_breachesOf : Cond.instanceMethod yX1_breachesOf ∈ AW := AW_in 252 (by decide +kernel) (by decide +kernel)
theorem wl_X1_breachesOf : Cond.selects RX1 yX1_breachesOf yX1_breachesOf ∈ AW := AW_in 253 (by decide +kernel) (by decide +kernel)
theorem np_X1_breachesOf : yX1_breachesOf.cls ≠ "java/lang/invoke/MethodHandle" ∧ yX1_breachesOf.cls ≠ "java/lang/invoke/VarHandle" ∧ (parseMethodDescriptor yX1_breachesOf.desc).map (fun d => d.parameters.length) = some 1 := ⟨by decide +kernel, by decide +kernel, by decide +kernel⟩
theorem wc_X1_init : Cond.code yX1_init cX1_init 4 none ∈ AW := AW_in 139 (by decide +kernel) (by decide +kernel)
theorem wi_X1_init : Cond.instanceMethod yX1_init ∈ AW := AW_in 138 (by decide +kernel) (by decide +kernel)
theorem np_X1_init : yX1_init.cls ≠ "java/lang/invoke/MethodHandle" ∧ yX1_init.cls ≠ "java/lang/invoke/VarHandle" ∧ (parseMethodDescriptor yX1_init.desc).map (fun d => d.parameters.length) = some 3 := ⟨by decide +kernel, by decide +kernel, by decide +kernel⟩
theorem wc_X1_look : Cond.code yX1_look cX1_look 3 none ∈ AW := AW_in 250 (by decide +kernel) (by decide +kernel)
theorem wi_X1_look : Cond.instanceMethod yX1_look ∈ AW := AW_in 248 (by decide +kernel) (by decide +kernel)
theorem wl_X1_look : Cond.selects RX1 yX1_look yX1_look ∈ AW := AW_in 249 (by decide +kernel) (by decide +kernel)
theorem np_X1_look : yX1_look.cls ≠ "java/lang/invoke/MethodHandle" ∧ yX1_look.cls ≠ "java/lang/invoke/VarHandle" ∧ (parseMethodDescriptor yX1_look.desc).map (fun d => d.parameters.length) = some 1 := ⟨by decide +kernel, by decide +kernel, by decide +kernel⟩
theorem wc_X1_shortagesOf : Cond.code yX1_shortagesOf cX1_shortagesOf 4 (some .int) ∈ AW := AW_in 295 (by decide +kernel) (by decide +kernel)
theorem wi_X1_shortagesOf : Cond.instanceMethod yX1_shortagesOf ∈ AW := AW_in 293 (by decide +kernel) (by decide +kernel)
theorem wl_X1_shortagesOf : Cond.selects RX1 yX1_shortagesOf yX1_shortagesOf ∈ AW := AW_in 294 (by decide +kernel) (by decide +kernel)
theorem np_X1_shortagesOf : yX1_shortagesOf.cls ≠ "java/lang/invoke/MethodHandle" ∧ yX1_shortagesOf.cls ≠ "java/lang/invoke/VarHandle" ∧ (parseMethodDescriptor yX1_shortagesOf.desc).map (fun d => d.parameters.length) = some 1 := ⟨by decide +kernel, by decide +kernel, by decide +kernel⟩
theorem wc_X2_breachAt : Cond.code yX2_breachAt cX2_breachAt 6 (some .int) ∈ AW := AW_in 381 (by decide +kernel) (by decide +kernel)
theorem wi_X2_breachAt : Cond.instanceMethod yX2_breachAt ∈ AW := AW_in 379 (by decide +kernel) (by decide +kernel)
theorem wl_X2_breachAt : Cond.selects RX2 yX2_breachAt yX2_breachAt ∈ AW := AW_in 380 (by decide +kernel) (by decide +kernel)
theorem np_X2_breachAt : yX2_breachAt.cls ≠ "java/lang/invoke/MethodHandle" ∧ yX2_breachAt.cls ≠ "java/lang/invoke/VarHandle" ∧ (parseMethodDescriptor yX2_breachAt.desc).map (fun d => d.parameters.length) = some 1 := ⟨by decide +kernel, by decide +kernel, by decide +kernel⟩
theorem wc_X2_daysOf : Cond.code yX2_daysOf cX2_daysOf 3 (some .int) ∈ AW := AW_in 385 (by decide +kernel) (by decide +kernel)
theorem wi_X2_daysOf : Cond.instanceMethod yX2_daysOf ∈ AW := AW_in 384 (by decide +kernel) (by decide +kernel)
theorem wl_X2_daysOf : Cond.selects RX2 yX2_daysOf yX2_daysOf ∈ AW := AW_sel (y := yX2_daysOf) (n := 2) 2 (by decide +kernel) (by decide +kernel)
theorem np_X2_daysOf : yX2_daysOf.cls ≠ "java/lang/invoke/MethodHandle" ∧ yX2_daysOf.cls ≠ "java/lang/invoke/VarHandle" ∧ (parseMethodDescriptor yX2_daysOf.desc).map (fun d => d.parameters.length) = some 2 := ⟨by decide +kernel, by decide +kernel, by decide +kernel⟩
theorem wc_X2_init : Cond.code yX2_init cX2_init 1 none ∈ AW := AW_in 155 (by decide +kernel) (by decide +kernel)
theorem wi_X2_init : Cond.instanceMethod yX2_init ∈ AW := AW_in 154 (by decide +kernel) (by decide +kernel)
theorem np_X2_init : yX2_init.cls ≠ "java/lang/invoke/MethodHandle" ∧ yX2_init.cls ≠ "java/lang/invoke/VarHandle" ∧ (parseMethodDescriptor yX2_init.desc).map (fun d => d.parameters.length) = some 0 := ⟨by decide +kernel, by decide +kernel, by decide +kernel⟩
theorem wc_X2_isClearBesides : Cond.code yX2_isClearBesides cX2_isClearBesides 4 (some .boolean) ∈ AW := AW_in 427 (by decide +kernel) (by decide +kernel)
theorem wi_X2_isClearBesides : Cond.instanceMethod yX2_isClearBesides ∈ AW := AW_in 425 (by decide +kernel) (by decide +kernel)
theorem wl_X2_isClearBesides : Cond.selects RX2 yX2_isClearBesides yX2_isClearBesides ∈ AW := AW_in 426 (by decide +kernel) (by decide +kernel)
theorem np_X2_isClearBesides : yX2_isClearBesides.cls ≠ "java/lang/invoke/MethodHandle" ∧ yX2_isClearBesides.cls ≠ "java/lang/invoke/VarHandle" ∧ (parseMethodDescriptor yX2_isClearBesides.desc).map (fun d => d.parameters.length) = some 2 := ⟨by decide +kernel, by decide +kernel, by decide +kernel⟩
theorem wc_X2_isPartOf : Cond.code yX2_isPartOf cX2_isPartOf 3 (some .boolean) ∈ AW := AW_in 907 (by decide +kernel) (by decide +kernel)
theorem wi_X2_isPartOf : Cond.instanceMethod yX2_isPartOf ∈ AW := AW_in 905 (by decide +kernel) (by decide +kernel)
theorem wl_X2_isPartOf : Cond.selects RX2 yX2_isPartOf yX2_isPartOf ∈ AW := AW_in 906 (by decide +kernel) (by decide +kernel)
theorem np_X2_isPartOf : yX2_isPartOf.cls ≠ "java/lang/invoke/MethodHandle" ∧ yX2_isPartOf.cls ≠ "java/lang/invoke/VarHandle" ∧ (parseMethodDescriptor yX2_isPartOf.desc).map (fun d => d.parameters.length) = some 1 := ⟨by decide +kernel, by decide +kernel, by decide +kernel⟩
theorem wc_X2_mostBurdened : Cond.code yX2_mostBurdened cX2_mostBurdened 5 (some .int) ∈ AW := AW_in 883 (by decide +kernel) (by decide +kernel)
theorem wi_X2_mostBurdened : Cond.instanceMethod yX2_mostBurdened ∈ AW := AW_in 881 (by decide +kernel) (by decide +kernel)
theorem wl_X2_mostBurdened : Cond.selects RX2 yX2_mostBurdened yX2_mostBurdened ∈ AW := AW_in 882 (by decide +kernel) (by decide +kernel)
theorem np_X2_mostBurdened : yX2_mostBurdened.cls ≠ "java/lang/invoke/MethodHandle" ∧ yX2_mostBurdened.cls ≠ "java/lang/invoke/VarHandle" ∧ (parseMethodDescriptor yX2_mostBurdened.desc).map (fun d => d.parameters.length) = some 0 := ⟨by decide +kernel, by decide +kernel, by decide +kernel⟩
theorem wc_X2_placeOfBit : Cond.code yX2_placeOfBit cX2_placeOfBit 4 (some .int) ∈ AW := AW_in 388 (by decide +kernel) (by decide +kernel)
theorem ws_X2_placeOfBit : Cond.static yX2_placeOfBit ∈ AW := AW_in 387 (by decide +kernel) (by decide +kernel)
theorem np_X2_placeOfBit : yX2_placeOfBit.cls ≠ "java/lang/invoke/MethodHandle" ∧ yX2_placeOfBit.cls ≠ "java/lang/invoke/VarHandle" ∧ (parseMethodDescriptor yX2_placeOfBit.desc).map (fun d => d.parameters.length) = some 2 := ⟨by decide +kernel, by decide +kernel, by decide +kernel⟩
theorem wc_X2_putRow : Cond.code yX2_putRow cX2_putRow 4 none ∈ AW := AW_in 291 (by decide +kernel) (by decide +kernel)
theorem wi_X2_putRow : Cond.instanceMethod yX2_putRow ∈ AW := AW_in 289 (by decide +kernel) (by decide +kernel)
theorem wl_X2_putRow : Cond.selects RX2 yX2_putRow yX2_putRow ∈ AW := AW_in 290 (by decide +kernel) (by decide +kernel)
theorem np_X2_putRow : yX2_putRow.cls ≠ "java/lang/invoke/MethodHandle" ∧ yX2_putRow.cls ≠ "java/lang/invoke/VarHandle" ∧ (parseMethodDescriptor yX2_putRow.desc).map (fun d => d.parameters.length) = some 2 := ⟨by decide +kernel, by decide +kernel, by decide +kernel⟩
theorem wc_X2_putShortages : Cond.code yX2_putShortages cX2_putShortages 3 none ∈ AW := AW_in 311 (by decide +kernel) (by decide +kernel)
theorem wi_X2_putShortages : Cond.instanceMethod yX2_putShortages ∈ AW := AW_in 309 (by decide +kernel) (by decide +kernel)
theorem wl_X2_putShortages : Cond.selects RX2 yX2_putShortages yX2_putShortages ∈ AW := AW_in 310 (by decide +kernel) (by decide +kernel)
theorem np_X2_putShortages : yX2_putShortages.cls ≠ "java/lang/invoke/MethodHandle" ∧ yX2_putShortages.cls ≠ "java/lang/invoke/VarHandle" ∧ (parseMethodDescriptor yX2_putShortages.desc).map (fun d => d.parameters.length) = some 2 := ⟨by decide +kernel, by decide +kernel, by decide +kernel⟩
theorem wc_X2_size : Cond.code yX2_size cX2_size 3 (some .int) ∈ AW := AW_in 316 (by decide +kernel) (by decide +kernel)
theorem wi_X2_size : Cond.instanceMethod yX2_size ∈ AW := AW_in 314 (by decide +kernel) (by decide +kernel)
theorem wl_X2_size : Cond.selects RX2 yX2_size yX2_size ∈ AW := AW_in 315 (by decide +kernel) (by decide +kernel)
theorem np_X2_size : yX2_size.cls ≠ "java/lang/invoke/MethodHandle" ∧ yX2_size.cls ≠ "java/lang/invoke/VarHandle" ∧ (parseMethodDescriptor yX2_size.desc).map (fun d => d.parameters.length) = some 0 := ⟨by decide +kernel, by decide +kernel, by decide +kernel⟩
theorem wc_X3_dayWorkedBefore : Cond.code yX3_dayWorkedBefore cX3_dayWorkedBefore 4 (some .int) ∈ AW := AW_in 408 (by decide +kernel) (by decide +kernel)
theorem wi_X3_dayWorkedBefore : Cond.instanceMethod yX3_dayWorkedBefore ∈ AW := AW_in 406 (by decide +kernel) (by decide +kernel)
theorem wl_X3_dayWorkedBefore : Cond.selects RX3 yX3_dayWorkedBefore yX3_dayWorkedBefore ∈ AW := AW_in 407 (by decide +kernel) (by decide +kernel)
theorem np_X3_dayWorkedBefore : yX3_dayWorkedBefore.cls ≠ "java/lang/invoke/MethodHandle" ∧ yX3_dayWorkedBefore.cls ≠ "java/lang/invoke/VarHandle" ∧ (parseMethodDescriptor yX3_dayWorkedBefore.desc).map (fun d => d.parameters.length) = some 2 := ⟨by decide +kernel, by decide +kernel, by decide +kernel⟩
theorem wc_X3_init : Cond.code yX3_init cX3_init 4 none ∈ AW := AW_in 123 (by decide +kernel) (by decide +kernel)
theorem wi_X3_init : Cond.instanceMethod yX3_init ∈ AW := AW_in 122 (by decide +kernel) (by decide +kernel)
theorem np_X3_init : yX3_init.cls ≠ "java/lang/invoke/MethodHandle" ∧ yX3_init.cls ≠ "java/lang/invoke/VarHandle" ∧ (parseMethodDescriptor yX3_init.desc).map (fun d => d.parameters.length) = some 3 := ⟨by decide +kernel, by decide +kernel, by decide +kernel⟩
theorem wc_X3_isNightAt : Cond.code yX3_isNightAt cX3_isNightAt 3 (some .boolean) ∈ AW := AW_in 350 (by decide +kernel) (by decide +kernel)
theorem wi_X3_isNightAt : Cond.instanceMethod yX3_isNightAt ∈ AW := AW_in 349 (by decide +kernel) (by decide +kernel)
theorem wl_X3_isNightAt : Cond.selects RX3 yX3_isNightAt yX3_isNightAt ∈ AW := AW_sel (y := yX3_isNightAt) (n := 3) 0 (by decide +kernel) (by decide +kernel)
theorem np_X3_isNightAt : yX3_isNightAt.cls ≠ "java/lang/invoke/MethodHandle" ∧ yX3_isNightAt.cls ≠ "java/lang/invoke/VarHandle" ∧ (parseMethodDescriptor yX3_isNightAt.desc).map (fun d => d.parameters.length) = some 2 := ⟨by decide +kernel, by decide +kernel, by decide +kernel⟩
theorem wc_X3_isRowOfNights : Cond.code yX3_isRowOfNights cX3_isRowOfNights 5 (some .boolean) ∈ AW := AW_in 362 (by decide +kernel) (by decide +kernel)
theorem wi_X3_isRowOfNights : Cond.instanceMethod yX3_isRowOfNights ∈ AW := AW_in 361 (by decide +kernel) (by decide +kernel)
theorem wl_X3_isRowOfNights : Cond.selects RX3 yX3_isRowOfNights yX3_isRowOfNights ∈ AW := AW_sel (y := yX3_isRowOfNights) (n := 3) 1 (by decide +kernel) (by decide +kernel)
theorem np_X3_isRowOfNights : yX3_isRowOfNights.cls ≠ "java/lang/invoke/MethodHandle" ∧ yX3_isRowOfNights.cls ≠ "java/lang/invoke/VarHandle" ∧ (parseMethodDescriptor yX3_isRowOfNights.desc).map (fun d => d.parameters.length) = some 3 := ⟨by decide +kernel, by decide +kernel, by decide +kernel⟩
theorem wc_X3_minutesAt : Cond.code yX3_minutesAt cX3_minutesAt 3 (some .int) ∈ AW := AW_in 336 (by decide +kernel) (by decide +kernel)
theorem wi_X3_minutesAt : Cond.instanceMethod yX3_minutesAt ∈ AW := AW_in 334 (by decide +kernel) (by decide +kernel)
theorem wl_X3_minutesAt : Cond.selects RX3 yX3_minutesAt yX3_minutesAt ∈ AW := AW_in 335 (by decide +kernel) (by decide +kernel)
theorem np_X3_minutesAt : yX3_minutesAt.cls ≠ "java/lang/invoke/MethodHandle" ∧ yX3_minutesAt.cls ≠ "java/lang/invoke/VarHandle" ∧ (parseMethodDescriptor yX3_minutesAt.desc).map (fun d => d.parameters.length) = some 2 := ⟨by decide +kernel, by decide +kernel, by decide +kernel⟩
theorem wc_X3_nightsByCounting : Cond.code yX3_nightsByCounting cX3_nightsByCounting 5 (some .int) ∈ AW := AW_in 346 (by decide +kernel) (by decide +kernel)
theorem wi_X3_nightsByCounting : Cond.instanceMethod yX3_nightsByCounting ∈ AW := AW_in 344 (by decide +kernel) (by decide +kernel)
theorem wl_X3_nightsByCounting : Cond.selects RX3 yX3_nightsByCounting yX3_nightsByCounting ∈ AW := AW_in 345 (by decide +kernel) (by decide +kernel)
theorem np_X3_nightsByCounting : yX3_nightsByCounting.cls ≠ "java/lang/invoke/MethodHandle" ∧ yX3_nightsByCounting.cls ≠ "java/lang/invoke/VarHandle" ∧ (parseMethodDescriptor yX3_nightsByCounting.desc).map (fun d => d.parameters.length) = some 1 := ⟨by decide +kernel, by decide +kernel, by decide +kernel⟩
theorem wc_X3_nightsByTryingRows : Cond.code yX3_nightsByTryingRows cX3_nightsByTryingRows 5 (some .int) ∈ AW := AW_in 358 (by decide +kernel) (by decide +kernel)
theorem wi_X3_nightsByTryingRows : Cond.instanceMethod yX3_nightsByTryingRows ∈ AW := AW_in 356 (by decide +kernel) (by decide +kernel)
theorem wl_X3_nightsByTryingRows : Cond.selects RX3 yX3_nightsByTryingRows yX3_nightsByTryingRows ∈ AW := AW_in 357 (by decide +kernel) (by decide +kernel)
theorem np_X3_nightsByTryingRows : yX3_nightsByTryingRows.cls ≠ "java/lang/invoke/MethodHandle" ∧ yX3_nightsByTryingRows.cls ≠ "java/lang/invoke/VarHandle" ∧ (parseMethodDescriptor yX3_nightsByTryingRows.desc).map (fun d => d.parameters.length) = some 1 := ⟨by decide +kernel, by decide +kernel, by decide +kernel⟩
theorem wc_X3_restAt : Cond.code yX3_restAt cX3_restAt 7 (some .int) ∈ AW := AW_in 752 (by decide +kernel) (by decide +kernel)
theorem wi_X3_restAt : Cond.instanceMethod yX3_restAt ∈ AW := AW_in 750 (by decide +kernel) (by decide +kernel)
theorem wl_X3_restAt : Cond.selects RX3 yX3_restAt yX3_restAt ∈ AW := AW_in 751 (by decide +kernel) (by decide +kernel)
theorem np_X3_restAt : yX3_restAt.cls ≠ "java/lang/invoke/MethodHandle" ∧ yX3_restAt.cls ≠ "java/lang/invoke/VarHandle" ∧ (parseMethodDescriptor yX3_restAt.desc).map (fun d => d.parameters.length) = some 2 := ⟨by decide +kernel, by decide +kernel, by decide +kernel⟩
theorem wc_X3_sumByAddingAnew : Cond.code yX3_sumByAddingAnew cX3_sumByAddingAnew 6 (some .int) ∈ AW := AW_in 371 (by decide +kernel) (by decide +kernel)
theorem wi_X3_sumByAddingAnew : Cond.instanceMethod yX3_sumByAddingAnew ∈ AW := AW_in 369 (by decide +kernel) (by decide +kernel)
theorem wl_X3_sumByAddingAnew : Cond.selects RX3 yX3_sumByAddingAnew yX3_sumByAddingAnew ∈ AW := AW_in 370 (by decide +kernel) (by decide +kernel)
theorem np_X3_sumByAddingAnew : yX3_sumByAddingAnew.cls ≠ "java/lang/invoke/MethodHandle" ∧ yX3_sumByAddingAnew.cls ≠ "java/lang/invoke/VarHandle" ∧ (parseMethodDescriptor yX3_sumByAddingAnew.desc).map (fun d => d.parameters.length) = some 1 := ⟨by decide +kernel, by decide +kernel, by decide +kernel⟩
theorem wc_X3_sumByMoving : Cond.code yX3_sumByMoving cX3_sumByMoving 5 (some .int) ∈ AW := AW_in 366 (by decide +kernel) (by decide +kernel)
theorem wi_X3_sumByMoving : Cond.instanceMethod yX3_sumByMoving ∈ AW := AW_in 364 (by decide +kernel) (by decide +kernel)
theorem wl_X3_sumByMoving : Cond.selects RX3 yX3_sumByMoving yX3_sumByMoving ∈ AW := AW_in 365 (by decide +kernel) (by decide +kernel)
theorem np_X3_sumByMoving : yX3_sumByMoving.cls ≠ "java/lang/invoke/MethodHandle" ∧ yX3_sumByMoving.cls ≠ "java/lang/invoke/VarHandle" ∧ (parseMethodDescriptor yX3_sumByMoving.desc).map (fun d => d.parameters.length) = some 1 := ⟨by decide +kernel, by decide +kernel, by decide +kernel⟩
theorem wc_X4_cellsAfter : Cond.code yX4_cellsAfter cX4_cellsAfter 1 (some .int) ∈ AW := AW_in 458 (by decide +kernel) (by decide +kernel)
theorem ws_X4_cellsAfter : Cond.static yX4_cellsAfter ∈ AW := AW_in 457 (by decide +kernel) (by decide +kernel)
theorem np_X4_cellsAfter : yX4_cellsAfter.cls ≠ "java/lang/invoke/MethodHandle" ∧ yX4_cellsAfter.cls ≠ "java/lang/invoke/VarHandle" ∧ (parseMethodDescriptor yX4_cellsAfter.desc).map (fun d => d.parameters.length) = some 1 := ⟨by decide +kernel, by decide +kernel, by decide +kernel⟩
theorem wc_X4_cellsOf : Cond.code yX4_cellsOf cX4_cellsOf 5 (some .int) ∈ AW := AW_in 411 (by decide +kernel) (by decide +kernel)
theorem ws_X4_cellsOf : Cond.static yX4_cellsOf ∈ AW := AW_in 410 (by decide +kernel) (by decide +kernel)
theorem np_X4_cellsOf : yX4_cellsOf.cls ≠ "java/lang/invoke/MethodHandle" ∧ yX4_cellsOf.cls ≠ "java/lang/invoke/VarHandle" ∧ (parseMethodDescriptor yX4_cellsOf.desc).map (fun d => d.parameters.length) = some 3 := ⟨by decide +kernel, by decide +kernel, by decide +kernel⟩
theorem wc_X4_cellsOfDay : Cond.code yX4_cellsOfDay cX4_cellsOfDay 3 (some .int) ∈ AW := AW_in 416 (by decide +kernel) (by decide +kernel)
theorem ws_X4_cellsOfDay : Cond.static yX4_cellsOfDay ∈ AW := AW_in 415 (by decide +kernel) (by decide +kernel)
theorem np_X4_cellsOfDay : yX4_cellsOfDay.cls ≠ "java/lang/invoke/MethodHandle" ∧ yX4_cellsOfDay.cls ≠ "java/lang/invoke/VarHandle" ∧ (parseMethodDescriptor yX4_cellsOfDay.desc).map (fun d => d.parameters.length) = some 1 := ⟨by decide +kernel, by decide +kernel, by decide +kernel⟩
theorem wc_X4_change : Cond.code yX4_change cX4_change 3 none ∈ AW := AW_in 453 (by decide +kernel) (by decide +kernel)
theorem wi_X4_change : Cond.instanceMethod yX4_change ∈ AW := AW_in 452 (by decide +kernel) (by decide +kernel)
theorem wl_X4_change : Cond.selects RX4 yX4_change yX4_change ∈ AW := AW_sel (y := yX4_change) (n := 7) 7 (by decide +kernel) (by decide +kernel)
theorem np_X4_change : yX4_change.cls ≠ "java/lang/invoke/MethodHandle" ∧ yX4_change.cls ≠ "java/lang/invoke/VarHandle" ∧ (parseMethodDescriptor yX4_change.desc).map (fun d => d.parameters.length) = some 2 := ⟨by decide +kernel, by decide +kernel, by decide +kernel⟩
theorem wc_X4_findLast : Cond.code yX4_findLast cX4_findLast 9 (some .boolean) ∈ AW := AW_in 420 (by decide +kernel) (by decide +kernel)
theorem wi_X4_findLast : Cond.instanceMethod yX4_findLast ∈ AW := AW_in 419 (by decide +kernel) (by decide +kernel)
theorem wl_X4_findLast : Cond.selects RX4 yX4_findLast yX4_findLast ∈ AW := AW_sel (y := yX4_findLast) (n := 7) 4 (by decide +kernel) (by decide +kernel)
theorem np_X4_findLast : yX4_findLast.cls ≠ "java/lang/invoke/MethodHandle" ∧ yX4_findLast.cls ≠ "java/lang/invoke/VarHandle" ∧ (parseMethodDescriptor yX4_findLast.desc).map (fun d => d.parameters.length) = some 2 := ⟨by decide +kernel, by decide +kernel, by decide +kernel⟩
theorem wc_X4_findTwo : Cond.code yX4_findTwo cX4_findTwo 9 (some .boolean) ∈ AW := AW_in 449 (by decide +kernel) (by decide +kernel)
theorem wi_X4_findTwo : Cond.instanceMethod yX4_findTwo ∈ AW := AW_in 448 (by decide +kernel) (by decide +kernel)
theorem wl_X4_findTwo : Cond.selects RX4 yX4_findTwo yX4_findTwo ∈ AW := AW_sel (y := yX4_findTwo) (n := 7) 6 (by decide +kernel) (by decide +kernel)
theorem np_X4_findTwo : yX4_findTwo.cls ≠ "java/lang/invoke/MethodHandle" ∧ yX4_findTwo.cls ≠ "java/lang/invoke/VarHandle" ∧ (parseMethodDescriptor yX4_findTwo.desc).map (fun d => d.parameters.length) = some 2 := ⟨by decide +kernel, by decide +kernel, by decide +kernel⟩
theorem wc_X4_has : Cond.code yX4_has cX4_has 2 (some .boolean) ∈ AW := AW_in 423 (by decide +kernel) (by decide +kernel)
theorem ws_X4_has : Cond.static yX4_has ∈ AW := AW_in 422 (by decide +kernel) (by decide +kernel)
theorem np_X4_has : yX4_has.cls ≠ "java/lang/invoke/MethodHandle" ∧ yX4_has.cls ≠ "java/lang/invoke/VarHandle" ∧ (parseMethodDescriptor yX4_has.desc).map (fun d => d.parameters.length) = some 2 := ⟨by decide +kernel, by decide +kernel, by decide +kernel⟩
theorem wc_X4_init : Cond.code yX4_init cX4_init 6 none ∈ AW := AW_in 169 (by decide +kernel) (by decide +kernel)
theorem wi_X4_init : Cond.instanceMethod yX4_init ∈ AW := AW_in 168 (by decide +kernel) (by decide +kernel)
theorem np_X4_init : yX4_init.cls ≠ "java/lang/invoke/MethodHandle" ∧ yX4_init.cls ≠ "java/lang/invoke/VarHandle" ∧ (parseMethodDescriptor yX4_init.desc).map (fun d => d.parameters.length) = some 5 := ⟨by decide +kernel, by decide +kernel, by decide +kernel⟩
theorem wc_X4_seek : Cond.code yX4_seek cX4_seek 3 (some .int) ∈ AW := AW_in 375 (by decide +kernel) (by decide +kernel)
theorem wi_X4_seek : Cond.instanceMethod yX4_seek ∈ AW := AW_in 373 (by decide +kernel) (by decide +kernel)
theorem wl_X4_seek : Cond.selects RX4 yX4_seek yX4_seek ∈ AW := AW_in 374 (by decide +kernel) (by decide +kernel)
theorem np_X4_seek : yX4_seek.cls ≠ "java/lang/invoke/MethodHandle" ∧ yX4_seek.cls ≠ "java/lang/invoke/VarHandle" ∧ (parseMethodDescriptor yX4_seek.desc).map (fun d => d.parameters.length) = some 1 := ⟨by decide +kernel, by decide +kernel, by decide +kernel⟩
theorem wc_X4_touching : Cond.code yX4_touching cX4_touching 4 (some .int) ∈ AW := AW_in 395 (by decide +kernel) (by decide +kernel)
theorem wi_X4_touching : Cond.instanceMethod yX4_touching ∈ AW := AW_in 394 (by decide +kernel) (by decide +kernel)
theorem wl_X4_touching : Cond.selects RX4 yX4_touching yX4_touching ∈ AW := AW_sel (y := yX4_touching) (n := 7) 3 (by decide +kernel) (by decide +kernel)
theorem np_X4_touching : yX4_touching.cls ≠ "java/lang/invoke/MethodHandle" ∧ yX4_touching.cls ≠ "java/lang/invoke/VarHandle" ∧ (parseMethodDescriptor yX4_touching.desc).map (fun d => d.parameters.length) = some 1 := ⟨by decide +kernel, by decide +kernel, by decide +kernel⟩
theorem wc_X5_countStaff : Cond.code yX5_countStaff cX5_countStaff 5 none ∈ AW := AW_in 439 (by decide +kernel) (by decide +kernel)
theorem wi_X5_countStaff : Cond.instanceMethod yX5_countStaff ∈ AW := AW_in 438 (by decide +kernel) (by decide +kernel)
theorem wl_X5_countStaff : Cond.selects RX5 yX5_countStaff yX5_countStaff ∈ AW := AW_sel (y := yX5_countStaff) (n := 5) 5 (by decide +kernel) (by decide +kernel)
theorem np_X5_countStaff : yX5_countStaff.cls ≠ "java/lang/invoke/MethodHandle" ∧ yX5_countStaff.cls ≠ "java/lang/invoke/VarHandle" ∧ (parseMethodDescriptor yX5_countStaff.desc).map (fun d => d.parameters.length) = some 3 := ⟨by decide +kernel, by decide +kernel, by decide +kernel⟩
theorem wc_X5_exchange : Cond.code yX5_exchange cX5_exchange 6 none ∈ AW := AW_in 901 (by decide +kernel) (by decide +kernel)
theorem wi_X5_exchange : Cond.instanceMethod yX5_exchange ∈ AW := AW_in 899 (by decide +kernel) (by decide +kernel)
theorem wl_X5_exchange : Cond.selects RX5 yX5_exchange yX5_exchange ∈ AW := AW_in 900 (by decide +kernel) (by decide +kernel)
theorem np_X5_exchange : yX5_exchange.cls ≠ "java/lang/invoke/MethodHandle" ∧ yX5_exchange.cls ≠ "java/lang/invoke/VarHandle" ∧ (parseMethodDescriptor yX5_exchange.desc).map (fun d => d.parameters.length) = some 3 := ⟨by decide +kernel, by decide +kernel, by decide +kernel⟩
theorem wc_X5_hasPerson : Cond.code yX5_hasPerson cX5_hasPerson 2 (some .boolean) ∈ AW := AW_in 642 (by decide +kernel) (by decide +kernel)
theorem wi_X5_hasPerson : Cond.instanceMethod yX5_hasPerson ∈ AW := AW_in 640 (by decide +kernel) (by decide +kernel)
theorem wl_X5_hasPerson : Cond.selects RX5 yX5_hasPerson yX5_hasPerson ∈ AW := AW_in 641 (by decide +kernel) (by decide +kernel)
theorem np_X5_hasPerson : yX5_hasPerson.cls ≠ "java/lang/invoke/MethodHandle" ∧ yX5_hasPerson.cls ≠ "java/lang/invoke/VarHandle" ∧ (parseMethodDescriptor yX5_hasPerson.desc).map (fun d => d.parameters.length) = some 1 := ⟨by decide +kernel, by decide +kernel, by decide +kernel⟩
theorem wc_X5_hasSkill : Cond.code yX5_hasSkill cX5_hasSkill 4 (some .boolean) ∈ AW := AW_in 284 (by decide +kernel) (by decide +kernel)
theorem wi_X5_hasSkill : Cond.instanceMethod yX5_hasSkill ∈ AW := AW_in 282 (by decide +kernel) (by decide +kernel)
theorem wl_X5_hasSkill : Cond.selects RX5 yX5_hasSkill yX5_hasSkill ∈ AW := AW_in 283 (by decide +kernel) (by decide +kernel)
theorem np_X5_hasSkill : yX5_hasSkill.cls ≠ "java/lang/invoke/MethodHandle" ∧ yX5_hasSkill.cls ≠ "java/lang/invoke/VarHandle" ∧ (parseMethodDescriptor yX5_hasSkill.desc).map (fun d => d.parameters.length) = some 2 := ⟨by decide +kernel, by decide +kernel, by decide +kernel⟩
theorem wc_X5_init : Cond.code yX5_init cX5_init 1 none ∈ AW := AW_in 98 (by decide +kernel) (by decide +kernel)
theorem wi_X5_init : Cond.instanceMethod yX5_init ∈ AW := AW_in 97 (by decide +kernel) (by decide +kernel)
theorem np_X5_init : yX5_init.cls ≠ "java/lang/invoke/MethodHandle" ∧ yX5_init.cls ≠ "java/lang/invoke/VarHandle" ∧ (parseMethodDescriptor yX5_init.desc).map (fun d => d.parameters.length) = some 0 := ⟨by decide +kernel, by decide +kernel, by decide +kernel⟩
theorem wc_X5_isAway : Cond.code yX5_isAway cX5_isAway 4 (some .boolean) ∈ AW := AW_in 280 (by decide +kernel) (by decide +kernel)
theorem wi_X5_isAway : Cond.instanceMethod yX5_isAway ∈ AW := AW_in 278 (by decide +kernel) (by decide +kernel)
theorem wl_X5_isAway : Cond.selects RX5 yX5_isAway yX5_isAway ∈ AW := AW_in 279 (by decide +kernel) (by decide +kernel)
theorem np_X5_isAway : yX5_isAway.cls ≠ "java/lang/invoke/MethodHandle" ∧ yX5_isAway.cls ≠ "java/lang/invoke/VarHandle" ∧ (parseMethodDescriptor yX5_isAway.desc).map (fun d => d.parameters.length) = some 2 := ⟨by decide +kernel, by decide +kernel, by decide +kernel⟩
theorem wc_X5_put : Cond.code yX5_put cX5_put 3 none ∈ AW := AW_in 435 (by decide +kernel) (by decide +kernel)
theorem wi_X5_put : Cond.instanceMethod yX5_put ∈ AW := AW_in 433 (by decide +kernel) (by decide +kernel)
theorem wl_X5_put : Cond.selects RX5 yX5_put yX5_put ∈ AW := AW_in 434 (by decide +kernel) (by decide +kernel)
theorem np_X5_put : yX5_put.cls ≠ "java/lang/invoke/MethodHandle" ∧ yX5_put.cls ≠ "java/lang/invoke/VarHandle" ∧ (parseMethodDescriptor yX5_put.desc).map (fun d => d.parameters.length) = some 2 := ⟨by decide +kernel, by decide +kernel, by decide +kernel⟩
theorem wc_X5_putAway : Cond.code yX5_putAway cX5_putAway 5 none ∈ AW := AW_in 734 (by decide +kernel) (by decide +kernel)
theorem wi_X5_putAway : Cond.instanceMethod yX5_putAway ∈ AW := AW_in 732 (by decide +kernel) (by decide +kernel)
theorem wl_X5_putAway : Cond.selects RX5 yX5_putAway yX5_putAway ∈ AW := AW_in 733 (by decide +kernel) (by decide +kernel)
theorem np_X5_putAway : yX5_putAway.cls ≠ "java/lang/invoke/MethodHandle" ∧ yX5_putAway.cls ≠ "java/lang/invoke/VarHandle" ∧ (parseMethodDescriptor yX5_putAway.desc).map (fun d => d.parameters.length) = some 3 := ⟨by decide +kernel, by decide +kernel, by decide +kernel⟩
theorem wc_X5_putSkill : Cond.code yX5_putSkill cX5_putSkill 4 none ∈ AW := AW_in 660 (by decide +kernel) (by decide +kernel)
theorem wi_X5_putSkill : Cond.instanceMethod yX5_putSkill ∈ AW := AW_in 658 (by decide +kernel) (by decide +kernel)
theorem wl_X5_putSkill : Cond.selects RX5 yX5_putSkill yX5_putSkill ∈ AW := AW_in 659 (by decide +kernel) (by decide +kernel)
theorem np_X5_putSkill : yX5_putSkill.cls ≠ "java/lang/invoke/MethodHandle" ∧ yX5_putSkill.cls ≠ "java/lang/invoke/VarHandle" ∧ (parseMethodDescriptor yX5_putSkill.desc).map (fun d => d.parameters.length) = some 2 := ⟨by decide +kernel, by decide +kernel, by decide +kernel⟩
theorem wc_X5_shiftAt : Cond.code yX5_shiftAt cX5_shiftAt 4 (some .int) ∈ AW := AW_in 258 (by decide +kernel) (by decide +kernel)
theorem wi_X5_shiftAt : Cond.instanceMethod yX5_shiftAt ∈ AW := AW_in 256 (by decide +kernel) (by decide +kernel)
theorem wl_X5_shiftAt : Cond.selects RX5 yX5_shiftAt yX5_shiftAt ∈ AW := AW_in 257 (by decide +kernel) (by decide +kernel)
theorem np_X5_shiftAt : yX5_shiftAt.cls ≠ "java/lang/invoke/MethodHandle" ∧ yX5_shiftAt.cls ≠ "java/lang/invoke/VarHandle" ∧ (parseMethodDescriptor yX5_shiftAt.desc).map (fun d => d.parameters.length) = some 2 := ⟨by decide +kernel, by decide +kernel, by decide +kernel⟩
theorem wc_X5_staffAt : Cond.code yX5_staffAt cX5_staffAt 4 (some .int) ∈ AW := AW_in 299 (by decide +kernel) (by decide +kernel)
theorem wi_X5_staffAt : Cond.instanceMethod yX5_staffAt ∈ AW := AW_in 297 (by decide +kernel) (by decide +kernel)
theorem wl_X5_staffAt : Cond.selects RX5 yX5_staffAt yX5_staffAt ∈ AW := AW_in 298 (by decide +kernel) (by decide +kernel)
theorem np_X5_staffAt : yX5_staffAt.cls ≠ "java/lang/invoke/MethodHandle" ∧ yX5_staffAt.cls ≠ "java/lang/invoke/VarHandle" ∧ (parseMethodDescriptor yX5_staffAt.desc).map (fun d => d.parameters.length) = some 2 := ⟨by decide +kernel, by decide +kernel, by decide +kernel⟩
theorem wc_X5_valueAt : Cond.code yX5_valueAt cX5_valueAt 2 (some .int) ∈ AW := AW_in 431 (by decide +kernel) (by decide +kernel)
theorem wi_X5_valueAt : Cond.instanceMethod yX5_valueAt ∈ AW := AW_in 429 (by decide +kernel) (by decide +kernel)
theorem wl_X5_valueAt : Cond.selects RX5 yX5_valueAt yX5_valueAt ∈ AW := AW_in 430 (by decide +kernel) (by decide +kernel)
theorem np_X5_valueAt : yX5_valueAt.cls ≠ "java/lang/invoke/MethodHandle" ∧ yX5_valueAt.cls ≠ "java/lang/invoke/VarHandle" ∧ (parseMethodDescriptor yX5_valueAt.desc).map (fun d => d.parameters.length) = some 1 := ⟨by decide +kernel, by decide +kernel, by decide +kernel⟩
theorem wc_X6_demandAt : Cond.code yX6_demandAt cX6_demandAt 4 (some .int) ∈ AW := AW_in 306 (by decide +kernel) (by decide +kernel)
theorem wi_X6_demandAt : Cond.instanceMethod yX6_demandAt ∈ AW := AW_in 304 (by decide +kernel) (by decide +kernel)
theorem wl_X6_demandAt : Cond.selects RX6 yX6_demandAt yX6_demandAt ∈ AW := AW_in 305 (by decide +kernel) (by decide +kernel)
theorem np_X6_demandAt : yX6_demandAt.cls ≠ "java/lang/invoke/MethodHandle" ∧ yX6_demandAt.cls ≠ "java/lang/invoke/VarHandle" ∧ (parseMethodDescriptor yX6_demandAt.desc).map (fun d => d.parameters.length) = some 2 := ⟨by decide +kernel, by decide +kernel, by decide +kernel⟩
theorem wc_X6_init : Cond.code yX6_init cX6_init 1 none ∈ AW := AW_in 59 (by decide +kernel) (by decide +kernel)
theorem wi_X6_init : Cond.instanceMethod yX6_init ∈ AW := AW_in 58 (by decide +kernel) (by decide +kernel)
theorem np_X6_init : yX6_init.cls ≠ "java/lang/invoke/MethodHandle" ∧ yX6_init.cls ≠ "java/lang/invoke/VarHandle" ∧ (parseMethodDescriptor yX6_init.desc).map (fun d => d.parameters.length) = some 0 := ⟨by decide +kernel, by decide +kernel, by decide +kernel⟩
theorem wc_X6_putDemand : Cond.code yX6_putDemand cX6_putDemand 5 none ∈ AW := AW_in 704 (by decide +kernel) (by decide +kernel)
theorem wi_X6_putDemand : Cond.instanceMethod yX6_putDemand ∈ AW := AW_in 702 (by decide +kernel) (by decide +kernel)
theorem wl_X6_putDemand : Cond.selects RX6 yX6_putDemand yX6_putDemand ∈ AW := AW_in 703 (by decide +kernel) (by decide +kernel)
theorem np_X6_putDemand : yX6_putDemand.cls ≠ "java/lang/invoke/MethodHandle" ∧ yX6_putDemand.cls ≠ "java/lang/invoke/VarHandle" ∧ (parseMethodDescriptor yX6_putDemand.desc).map (fun d => d.parameters.length) = some 3 := ⟨by decide +kernel, by decide +kernel, by decide +kernel⟩
theorem wc_X7_append : Cond.code yX7_append cX7_append 3 (some .int) ∈ AW := AW_in 570 (by decide +kernel) (by decide +kernel)
theorem wi_X7_append : Cond.instanceMethod yX7_append ∈ AW := AW_in 568 (by decide +kernel) (by decide +kernel)
theorem wl_X7_append : Cond.selects RX7 yX7_append yX7_append ∈ AW := AW_in 569 (by decide +kernel) (by decide +kernel)
theorem np_X7_append : yX7_append.cls ≠ "java/lang/invoke/MethodHandle" ∧ yX7_append.cls ≠ "java/lang/invoke/VarHandle" ∧ (parseMethodDescriptor yX7_append.desc).map (fun d => d.parameters.length) = some 2 := ⟨by decide +kernel, by decide +kernel, by decide +kernel⟩
theorem wc_X7_has : Cond.code yX7_has cX7_has 2 (some .boolean) ∈ AW := AW_in 586 (by decide +kernel) (by decide +kernel)
theorem wi_X7_has : Cond.instanceMethod yX7_has ∈ AW := AW_in 584 (by decide +kernel) (by decide +kernel)
theorem wl_X7_has : Cond.selects RX7 yX7_has yX7_has ∈ AW := AW_in 585 (by decide +kernel) (by decide +kernel)
theorem np_X7_has : yX7_has.cls ≠ "java/lang/invoke/MethodHandle" ∧ yX7_has.cls ≠ "java/lang/invoke/VarHandle" ∧ (parseMethodDescriptor yX7_has.desc).map (fun d => d.parameters.length) = some 1 := ⟨by decide +kernel, by decide +kernel, by decide +kernel⟩
theorem wc_X7_holdsNight : Cond.code yX7_holdsNight cX7_holdsNight 2 (some .boolean) ∈ AW := AW_in 265 (by decide +kernel) (by decide +kernel)
theorem wi_X7_holdsNight : Cond.instanceMethod yX7_holdsNight ∈ AW := AW_in 263 (by decide +kernel) (by decide +kernel)
theorem wl_X7_holdsNight : Cond.selects RX7 yX7_holdsNight yX7_holdsNight ∈ AW := AW_in 264 (by decide +kernel) (by decide +kernel)
theorem np_X7_holdsNight : yX7_holdsNight.cls ≠ "java/lang/invoke/MethodHandle" ∧ yX7_holdsNight.cls ≠ "java/lang/invoke/VarHandle" ∧ (parseMethodDescriptor yX7_holdsNight.desc).map (fun d => d.parameters.length) = some 1 := ⟨by decide +kernel, by decide +kernel, by decide +kernel⟩
theorem wc_X7_init : Cond.code yX7_init cX7_init 1 none ∈ AW := AW_in 40 (by decide +kernel) (by decide +kernel)
theorem wi_X7_init : Cond.instanceMethod yX7_init ∈ AW := AW_in 39 (by decide +kernel) (by decide +kernel)
theorem np_X7_init : yX7_init.cls ≠ "java/lang/invoke/MethodHandle" ∧ yX7_init.cls ≠ "java/lang/invoke/VarHandle" ∧ (parseMethodDescriptor yX7_init.desc).map (fun d => d.parameters.length) = some 0 := ⟨by decide +kernel, by decide +kernel, by decide +kernel⟩
theorem wc_X7_lengthOf : Cond.code yX7_lengthOf cX7_lengthOf 2 (some .int) ∈ AW := AW_in 269 (by decide +kernel) (by decide +kernel)
theorem wi_X7_lengthOf : Cond.instanceMethod yX7_lengthOf ∈ AW := AW_in 267 (by decide +kernel) (by decide +kernel)
theorem wl_X7_lengthOf : Cond.selects RX7 yX7_lengthOf yX7_lengthOf ∈ AW := AW_in 268 (by decide +kernel) (by decide +kernel)
theorem np_X7_lengthOf : yX7_lengthOf.cls ≠ "java/lang/invoke/MethodHandle" ∧ yX7_lengthOf.cls ≠ "java/lang/invoke/VarHandle" ∧ (parseMethodDescriptor yX7_lengthOf.desc).map (fun d => d.parameters.length) = some 1 := ⟨by decide +kernel, by decide +kernel, by decide +kernel⟩
theorem wc_X7_startOf : Cond.code yX7_startOf cX7_startOf 2 (some .int) ∈ AW := AW_in 276 (by decide +kernel) (by decide +kernel)
theorem wi_X7_startOf : Cond.instanceMethod yX7_startOf ∈ AW := AW_in 274 (by decide +kernel) (by decide +kernel)
theorem wl_X7_startOf : Cond.selects RX7 yX7_startOf yX7_startOf ∈ AW := AW_in 275 (by decide +kernel) (by decide +kernel)
theorem np_X7_startOf : yX7_startOf.cls ≠ "java/lang/invoke/MethodHandle" ∧ yX7_startOf.cls ≠ "java/lang/invoke/VarHandle" ∧ (parseMethodDescriptor yX7_startOf.desc).map (fun d => d.parameters.length) = some 1 := ⟨by decide +kernel, by decide +kernel, by decide +kernel⟩
theorem wc_X8_addPerson : Cond.code yX8_addPerson cX8_addPerson 1 (some .int) ∈ AW := AW_in 466 (by decide +kernel) (by decide +kernel)
theorem wi_X8_addPerson : Cond.instanceMethod yX8_addPerson ∈ AW := AW_in 464 (by decide +kernel) (by decide +kernel)
theorem wl_X8_addPerson : Cond.selects RX8 yX8_addPerson yX8_addPerson ∈ AW := AW_in 465 (by decide +kernel) (by decide +kernel)
theorem np_X8_addPerson : yX8_addPerson.cls ≠ "java/lang/invoke/MethodHandle" ∧ yX8_addPerson.cls ≠ "java/lang/invoke/VarHandle" ∧ (parseMethodDescriptor yX8_addPerson.desc).map (fun d => d.parameters.length) = some 0 := ⟨by decide +kernel, by decide +kernel, by decide +kernel⟩
theorem wc_X8_addShift : Cond.code yX8_addShift cX8_addShift 3 (some .int) ∈ AW := AW_in 546 (by decide +kernel) (by decide +kernel)
theorem wi_X8_addShift : Cond.instanceMethod yX8_addShift ∈ AW := AW_in 544 (by decide +kernel) (by decide +kernel)
theorem wl_X8_addShift : Cond.selects RX8 yX8_addShift yX8_addShift ∈ AW := AW_in 545 (by decide +kernel) (by decide +kernel)
theorem np_X8_addShift : yX8_addShift.cls ≠ "java/lang/invoke/MethodHandle" ∧ yX8_addShift.cls ≠ "java/lang/invoke/VarHandle" ∧ (parseMethodDescriptor yX8_addShift.desc).map (fun d => d.parameters.length) = some 2 := ⟨by decide +kernel, by decide +kernel, by decide +kernel⟩
theorem wc_X8_assign : Cond.code yX8_assign cX8_assign 5 (some .int) ∈ AW := AW_in 711 (by decide +kernel) (by decide +kernel)
theorem wi_X8_assign : Cond.instanceMethod yX8_assign ∈ AW := AW_in 709 (by decide +kernel) (by decide +kernel)
theorem wl_X8_assign : Cond.selects RX8 yX8_assign yX8_assign ∈ AW := AW_in 710 (by decide +kernel) (by decide +kernel)
theorem np_X8_assign : yX8_assign.cls ≠ "java/lang/invoke/MethodHandle" ∧ yX8_assign.cls ≠ "java/lang/invoke/VarHandle" ∧ (parseMethodDescriptor yX8_assign.desc).map (fun d => d.parameters.length) = some 3 := ⟨by decide +kernel, by decide +kernel, by decide +kernel⟩
theorem wc_X8_breachDay : Cond.code yX8_breachDay cX8_breachDay 2 (some .int) ∈ AW := AW_in 861 (by decide +kernel) (by decide +kernel)
theorem wi_X8_breachDay : Cond.instanceMethod yX8_breachDay ∈ AW := AW_in 859 (by decide +kernel) (by decide +kernel)
theorem wl_X8_breachDay : Cond.selects RX8 yX8_breachDay yX8_breachDay ∈ AW := AW_in 860 (by decide +kernel) (by decide +kernel)
theorem np_X8_breachDay : yX8_breachDay.cls ≠ "java/lang/invoke/MethodHandle" ∧ yX8_breachDay.cls ≠ "java/lang/invoke/VarHandle" ∧ (parseMethodDescriptor yX8_breachDay.desc).map (fun d => d.parameters.length) = some 1 := ⟨by decide +kernel, by decide +kernel, by decide +kernel⟩
theorem wc_X8_breachKind : Cond.code yX8_breachKind cX8_breachKind 3 (some .char) ∈ AW := AW_in 790 (by decide +kernel) (by decide +kernel)
theorem wi_X8_breachKind : Cond.instanceMethod yX8_breachKind ∈ AW := AW_in 788 (by decide +kernel) (by decide +kernel)
theorem wl_X8_breachKind : Cond.selects RX8 yX8_breachKind yX8_breachKind ∈ AW := AW_in 789 (by decide +kernel) (by decide +kernel)
theorem np_X8_breachKind : yX8_breachKind.cls ≠ "java/lang/invoke/MethodHandle" ∧ yX8_breachKind.cls ≠ "java/lang/invoke/VarHandle" ∧ (parseMethodDescriptor yX8_breachKind.desc).map (fun d => d.parameters.length) = some 1 := ⟨by decide +kernel, by decide +kernel, by decide +kernel⟩
theorem wc_X8_breachOf : Cond.code yX8_breachOf cX8_breachOf 4 (some .int) ∈ AW := AW_in 391 (by decide +kernel) (by decide +kernel)
theorem ws_X8_breachOf : Cond.static yX8_breachOf ∈ AW := AW_in 390 (by decide +kernel) (by decide +kernel)
theorem np_X8_breachOf : yX8_breachOf.cls ≠ "java/lang/invoke/MethodHandle" ∧ yX8_breachOf.cls ≠ "java/lang/invoke/VarHandle" ∧ (parseMethodDescriptor yX8_breachOf.desc).map (fun d => d.parameters.length) = some 4 := ⟨by decide +kernel, by decide +kernel, by decide +kernel⟩
theorem wc_X8_breachPerson : Cond.code yX8_breachPerson cX8_breachPerson 2 (some .int) ∈ AW := AW_in 853 (by decide +kernel) (by decide +kernel)
theorem wi_X8_breachPerson : Cond.instanceMethod yX8_breachPerson ∈ AW := AW_in 851 (by decide +kernel) (by decide +kernel)
theorem wl_X8_breachPerson : Cond.selects RX8 yX8_breachPerson yX8_breachPerson ∈ AW := AW_in 852 (by decide +kernel) (by decide +kernel)
theorem np_X8_breachPerson : yX8_breachPerson.cls ≠ "java/lang/invoke/MethodHandle" ∧ yX8_breachPerson.cls ≠ "java/lang/invoke/VarHandle" ∧ (parseMethodDescriptor yX8_breachPerson.desc).map (fun d => d.parameters.length) = some 1 := ⟨by decide +kernel, by decide +kernel, by decide +kernel⟩
theorem wc_X8_breachShift : Cond.code yX8_breachShift cX8_breachShift 2 (some .int) ∈ AW := AW_in 869 (by decide +kernel) (by decide +kernel)
theorem wi_X8_breachShift : Cond.instanceMethod yX8_breachShift ∈ AW := AW_in 867 (by decide +kernel) (by decide +kernel)
theorem wl_X8_breachShift : Cond.selects RX8 yX8_breachShift yX8_breachShift ∈ AW := AW_in 868 (by decide +kernel) (by decide +kernel)
theorem np_X8_breachShift : yX8_breachShift.cls ≠ "java/lang/invoke/MethodHandle" ∧ yX8_breachShift.cls ≠ "java/lang/invoke/VarHandle" ∧ (parseMethodDescriptor yX8_breachShift.desc).map (fun d => d.parameters.length) = some 1 := ⟨by decide +kernel, by decide +kernel, by decide +kernel⟩
theorem wc_X8_breaches : Cond.code yX8_breaches cX8_breaches 1 (some .int) ∈ AW := AW_in 246 (by decide +kernel) (by decide +kernel)
theorem wi_X8_breaches : Cond.instanceMethod yX8_breaches ∈ AW := AW_in 244 (by decide +kernel) (by decide +kernel)
theorem wl_X8_breaches : Cond.selects RX8 yX8_breaches yX8_breaches ∈ AW := AW_in 245 (by decide +kernel) (by decide +kernel)
theorem np_X8_breaches : yX8_breaches.cls ≠ "java/lang/invoke/MethodHandle" ∧ yX8_breaches.cls ≠ "java/lang/invoke/VarHandle" ∧ (parseMethodDescriptor yX8_breaches.desc).map (fun d => d.parameters.length) = some 0 := ⟨by decide +kernel, by decide +kernel, by decide +kernel⟩
theorem wc_X8_cellOf : Cond.code yX8_cellOf cX8_cellOf 2 (some .int) ∈ AW := AW_in 261 (by decide +kernel) (by decide +kernel)
theorem ws_X8_cellOf : Cond.static yX8_cellOf ∈ AW := AW_in 260 (by decide +kernel) (by decide +kernel)
theorem np_X8_cellOf : yX8_cellOf.cls ≠ "java/lang/invoke/MethodHandle" ∧ yX8_cellOf.cls ≠ "java/lang/invoke/VarHandle" ∧ (parseMethodDescriptor yX8_cellOf.desc).map (fun d => d.parameters.length) = some 2 := ⟨by decide +kernel, by decide +kernel, by decide +kernel⟩
theorem wc_X8_changedCell : Cond.code yX8_changedCell cX8_changedCell 2 (some .int) ∈ AW := AW_in 973 (by decide +kernel) (by decide +kernel)
theorem wi_X8_changedCell : Cond.instanceMethod yX8_changedCell ∈ AW := AW_in 971 (by decide +kernel) (by decide +kernel)
theorem wl_X8_changedCell : Cond.selects RX8 yX8_changedCell yX8_changedCell ∈ AW := AW_in 972 (by decide +kernel) (by decide +kernel)
theorem np_X8_changedCell : yX8_changedCell.cls ≠ "java/lang/invoke/MethodHandle" ∧ yX8_changedCell.cls ≠ "java/lang/invoke/VarHandle" ∧ (parseMethodDescriptor yX8_changedCell.desc).map (fun d => d.parameters.length) = some 1 := ⟨by decide +kernel, by decide +kernel, by decide +kernel⟩
theorem wc_X8_changedValue : Cond.code yX8_changedValue cX8_changedValue 2 (some .int) ∈ AW := AW_in 985 (by decide +kernel) (by decide +kernel)
theorem wi_X8_changedValue : Cond.instanceMethod yX8_changedValue ∈ AW := AW_in 983 (by decide +kernel) (by decide +kernel)
theorem wl_X8_changedValue : Cond.selects RX8 yX8_changedValue yX8_changedValue ∈ AW := AW_in 984 (by decide +kernel) (by decide +kernel)
theorem np_X8_changedValue : yX8_changedValue.cls ≠ "java/lang/invoke/MethodHandle" ∧ yX8_changedValue.cls ≠ "java/lang/invoke/VarHandle" ∧ (parseMethodDescriptor yX8_changedValue.desc).map (fun d => d.parameters.length) = some 1 := ⟨by decide +kernel, by decide +kernel, by decide +kernel⟩
theorem wc_X8_dayOf : Cond.code yX8_dayOf cX8_dayOf 1 (some .int) ∈ AW := AW_in 398 (by decide +kernel) (by decide +kernel)
theorem ws_X8_dayOf : Cond.static yX8_dayOf ∈ AW := AW_in 397 (by decide +kernel) (by decide +kernel)
theorem np_X8_dayOf : yX8_dayOf.cls ≠ "java/lang/invoke/MethodHandle" ∧ yX8_dayOf.cls ≠ "java/lang/invoke/VarHandle" ∧ (parseMethodDescriptor yX8_dayOf.desc).map (fun d => d.parameters.length) = some 1 := ⟨by decide +kernel, by decide +kernel, by decide +kernel⟩
theorem wc_X8_free : Cond.code yX8_free cX8_free 4 (some .int) ∈ AW := AW_in 721 (by decide +kernel) (by decide +kernel)
theorem wi_X8_free : Cond.instanceMethod yX8_free ∈ AW := AW_in 719 (by decide +kernel) (by decide +kernel)
theorem wl_X8_free : Cond.selects RX8 yX8_free yX8_free ∈ AW := AW_in 720 (by decide +kernel) (by decide +kernel)
theorem np_X8_free : yX8_free.cls ≠ "java/lang/invoke/MethodHandle" ∧ yX8_free.cls ≠ "java/lang/invoke/VarHandle" ∧ (parseMethodDescriptor yX8_free.desc).map (fun d => d.parameters.length) = some 2 := ⟨by decide +kernel, by decide +kernel, by decide +kernel⟩
theorem wc_X8_init : Cond.code yX8_init cX8_init 1 none ∈ AW := AW_in 32 (by decide +kernel) (by decide +kernel)
theorem wi_X8_init : Cond.instanceMethod yX8_init ∈ AW := AW_in 31 (by decide +kernel) (by decide +kernel)
theorem np_X8_init : yX8_init.cls ≠ "java/lang/invoke/MethodHandle" ∧ yX8_init.cls ≠ "java/lang/invoke/VarHandle" ∧ (parseMethodDescriptor yX8_init.desc).map (fun d => d.parameters.length) = some 0 := ⟨by decide +kernel, by decide +kernel, by decide +kernel⟩
theorem wc_X8_isNight : Cond.code yX8_isNight cX8_isNight 2 (some .boolean) ∈ AW := AW_in 578 (by decide +kernel) (by decide +kernel)
theorem wi_X8_isNight : Cond.instanceMethod yX8_isNight ∈ AW := AW_in 576 (by decide +kernel) (by decide +kernel)
theorem wl_X8_isNight : Cond.selects RX8 yX8_isNight yX8_isNight ∈ AW := AW_in 577 (by decide +kernel) (by decide +kernel)
theorem np_X8_isNight : yX8_isNight.cls ≠ "java/lang/invoke/MethodHandle" ∧ yX8_isNight.cls ≠ "java/lang/invoke/VarHandle" ∧ (parseMethodDescriptor yX8_isNight.desc).map (fun d => d.parameters.length) = some 1 := ⟨by decide +kernel, by decide +kernel, by decide +kernel⟩
theorem wc_X8_isSound : Cond.code yX8_isSound cX8_isSound 2 (some .boolean) ∈ AW := AW_in 342 (by decide +kernel) (by decide +kernel)
theorem wi_X8_isSound : Cond.instanceMethod yX8_isSound ∈ AW := AW_in 340 (by decide +kernel) (by decide +kernel)
theorem wl_X8_isSound : Cond.selects RX8 yX8_isSound yX8_isSound ∈ AW := AW_in 341 (by decide +kernel) (by decide +kernel)
theorem np_X8_isSound : yX8_isSound.cls ≠ "java/lang/invoke/MethodHandle" ∧ yX8_isSound.cls ≠ "java/lang/invoke/VarHandle" ∧ (parseMethodDescriptor yX8_isSound.desc).map (fun d => d.parameters.length) = some 0 := ⟨by decide +kernel, by decide +kernel, by decide +kernel⟩
theorem wc_X8_kindOf : Cond.code yX8_kindOf cX8_kindOf 1 (some .int) ∈ AW := AW_in 404 (by decide +kernel) (by decide +kernel)
theorem ws_X8_kindOf : Cond.static yX8_kindOf ∈ AW := AW_in 403 (by decide +kernel) (by decide +kernel)
theorem np_X8_kindOf : yX8_kindOf.cls ≠ "java/lang/invoke/MethodHandle" ∧ yX8_kindOf.cls ≠ "java/lang/invoke/VarHandle" ∧ (parseMethodDescriptor yX8_kindOf.desc).map (fun d => d.parameters.length) = some 1 := ⟨by decide +kernel, by decide +kernel, by decide +kernel⟩
theorem wc_X8_leastByTrial : Cond.code yX8_leastByTrial cX8_leastByTrial 1 (some .int) ∈ AW := AW_in 950 (by decide +kernel) (by decide +kernel)
theorem wi_X8_leastByTrial : Cond.instanceMethod yX8_leastByTrial ∈ AW := AW_in 948 (by decide +kernel) (by decide +kernel)
theorem wl_X8_leastByTrial : Cond.selects RX8 yX8_leastByTrial yX8_leastByTrial ∈ AW := AW_in 949 (by decide +kernel) (by decide +kernel)
theorem np_X8_leastByTrial : yX8_leastByTrial.cls ≠ "java/lang/invoke/MethodHandle" ∧ yX8_leastByTrial.cls ≠ "java/lang/invoke/VarHandle" ∧ (parseMethodDescriptor yX8_leastByTrial.desc).map (fun d => d.parameters.length) = some 0 := ⟨by decide +kernel, by decide +kernel, by decide +kernel⟩
theorem wc_X8_leastChanges : Cond.code yX8_leastChanges cX8_leastChanges 1 (some .int) ∈ AW := AW_in 939 (by decide +kernel) (by decide +kernel)
theorem wi_X8_leastChanges : Cond.instanceMethod yX8_leastChanges ∈ AW := AW_in 937 (by decide +kernel) (by decide +kernel)
theorem wl_X8_leastChanges : Cond.selects RX8 yX8_leastChanges yX8_leastChanges ∈ AW := AW_in 938 (by decide +kernel) (by decide +kernel)
theorem np_X8_leastChanges : yX8_leastChanges.cls ≠ "java/lang/invoke/MethodHandle" ∧ yX8_leastChanges.cls ≠ "java/lang/invoke/VarHandle" ∧ (parseMethodDescriptor yX8_leastChanges.desc).map (fun d => d.parameters.length) = some 0 := ⟨by decide +kernel, by decide +kernel, by decide +kernel⟩
theorem wc_X8_longestByRows : Cond.code yX8_longestByRows cX8_longestByRows 2 (some .int) ∈ AW := AW_in 769 (by decide +kernel) (by decide +kernel)
theorem wi_X8_longestByRows : Cond.instanceMethod yX8_longestByRows ∈ AW := AW_in 767 (by decide +kernel) (by decide +kernel)
theorem wl_X8_longestByRows : Cond.selects RX8 yX8_longestByRows yX8_longestByRows ∈ AW := AW_in 768 (by decide +kernel) (by decide +kernel)
theorem np_X8_longestByRows : yX8_longestByRows.cls ≠ "java/lang/invoke/MethodHandle" ∧ yX8_longestByRows.cls ≠ "java/lang/invoke/VarHandle" ∧ (parseMethodDescriptor yX8_longestByRows.desc).map (fun d => d.parameters.length) = some 1 := ⟨by decide +kernel, by decide +kernel, by decide +kernel⟩
theorem wc_X8_longestNights : Cond.code yX8_longestNights cX8_longestNights 2 (some .int) ∈ AW := AW_in 762 (by decide +kernel) (by decide +kernel)
theorem wi_X8_longestNights : Cond.instanceMethod yX8_longestNights ∈ AW := AW_in 760 (by decide +kernel) (by decide +kernel)
theorem wl_X8_longestNights : Cond.selects RX8 yX8_longestNights yX8_longestNights ∈ AW := AW_in 761 (by decide +kernel) (by decide +kernel)
theorem np_X8_longestNights : yX8_longestNights.cls ≠ "java/lang/invoke/MethodHandle" ∧ yX8_longestNights.cls ≠ "java/lang/invoke/VarHandle" ∧ (parseMethodDescriptor yX8_longestNights.desc).map (fun d => d.parameters.length) = some 1 := ⟨by decide +kernel, by decide +kernel, by decide +kernel⟩
theorem wc_X8_meanRest : Cond.code yX8_meanRest cX8_meanRest 6 (some .double) ∈ AW := AW_in 1014 (by decide +kernel) (by decide +kernel)
theorem wi_X8_meanRest : Cond.instanceMethod yX8_meanRest ∈ AW := AW_in 1012 (by decide +kernel) (by decide +kernel)
theorem wl_X8_meanRest : Cond.selects RX8 yX8_meanRest yX8_meanRest ∈ AW := AW_in 1013 (by decide +kernel) (by decide +kernel)
theorem np_X8_meanRest : yX8_meanRest.cls ≠ "java/lang/invoke/MethodHandle" ∧ yX8_meanRest.cls ≠ "java/lang/invoke/VarHandle" ∧ (parseMethodDescriptor yX8_meanRest.desc).map (fun d => d.parameters.length) = some 1 := ⟨by decide +kernel, by decide +kernel, by decide +kernel⟩
theorem wc_X8_mend : Cond.code yX8_mend cX8_mend 3 (some .int) ∈ AW := AW_in 957 (by decide +kernel) (by decide +kernel)
theorem wi_X8_mend : Cond.instanceMethod yX8_mend ∈ AW := AW_in 955 (by decide +kernel) (by decide +kernel)
theorem wl_X8_mend : Cond.selects RX8 yX8_mend yX8_mend ∈ AW := AW_in 956 (by decide +kernel) (by decide +kernel)
theorem np_X8_mend : yX8_mend.cls ≠ "java/lang/invoke/MethodHandle" ∧ yX8_mend.cls ≠ "java/lang/invoke/VarHandle" ∧ (parseMethodDescriptor yX8_mend.desc).map (fun d => d.parameters.length) = some 0 := ⟨by decide +kernel, by decide +kernel, by decide +kernel⟩
theorem wc_X8_minutes : Cond.code yX8_minutes cX8_minutes 5 (some .long) ∈ AW := AW_in 332 (by decide +kernel) (by decide +kernel)
theorem wi_X8_minutes : Cond.instanceMethod yX8_minutes ∈ AW := AW_in 330 (by decide +kernel) (by decide +kernel)
theorem wl_X8_minutes : Cond.selects RX8 yX8_minutes yX8_minutes ∈ AW := AW_in 331 (by decide +kernel) (by decide +kernel)
theorem np_X8_minutes : yX8_minutes.cls ≠ "java/lang/invoke/MethodHandle" ∧ yX8_minutes.cls ≠ "java/lang/invoke/VarHandle" ∧ (parseMethodDescriptor yX8_minutes.desc).map (fun d => d.parameters.length) = some 0 := ⟨by decide +kernel, by decide +kernel, by decide +kernel⟩
theorem wc_X8_mostBreaches : Cond.code yX8_mostBreaches cX8_mostBreaches 2 (some .int) ∈ AW := AW_in 879 (by decide +kernel) (by decide +kernel)
theorem wi_X8_mostBreaches : Cond.instanceMethod yX8_mostBreaches ∈ AW := AW_in 877 (by decide +kernel) (by decide +kernel)
theorem wl_X8_mostBreaches : Cond.selects RX8 yX8_mostBreaches yX8_mostBreaches ∈ AW := AW_in 878 (by decide +kernel) (by decide +kernel)
theorem np_X8_mostBreaches : yX8_mostBreaches.cls ≠ "java/lang/invoke/MethodHandle" ∧ yX8_mostBreaches.cls ≠ "java/lang/invoke/VarHandle" ∧ (parseMethodDescriptor yX8_mostBreaches.desc).map (fun d => d.parameters.length) = some 0 := ⟨by decide +kernel, by decide +kernel, by decide +kernel⟩
theorem wc_X8_partner : Cond.code yX8_partner cX8_partner 6 (some .int) ∈ AW := AW_in 931 (by decide +kernel) (by decide +kernel)
theorem wi_X8_partner : Cond.instanceMethod yX8_partner ∈ AW := AW_in 929 (by decide +kernel) (by decide +kernel)
theorem wl_X8_partner : Cond.selects RX8 yX8_partner yX8_partner ∈ AW := AW_in 930 (by decide +kernel) (by decide +kernel)
theorem np_X8_partner : yX8_partner.cls ≠ "java/lang/invoke/MethodHandle" ∧ yX8_partner.cls ≠ "java/lang/invoke/VarHandle" ∧ (parseMethodDescriptor yX8_partner.desc).map (fun d => d.parameters.length) = some 2 := ⟨by decide +kernel, by decide +kernel, by decide +kernel⟩
theorem wc_X8_peak : Cond.code yX8_peak cX8_peak 2 (some .int) ∈ AW := AW_in 776 (by decide +kernel) (by decide +kernel)
theorem wi_X8_peak : Cond.instanceMethod yX8_peak ∈ AW := AW_in 774 (by decide +kernel) (by decide +kernel)
theorem wl_X8_peak : Cond.selects RX8 yX8_peak yX8_peak ∈ AW := AW_in 775 (by decide +kernel) (by decide +kernel)
theorem np_X8_peak : yX8_peak.cls ≠ "java/lang/invoke/MethodHandle" ∧ yX8_peak.cls ≠ "java/lang/invoke/VarHandle" ∧ (parseMethodDescriptor yX8_peak.desc).map (fun d => d.parameters.length) = some 1 := ⟨by decide +kernel, by decide +kernel, by decide +kernel⟩
theorem wc_X8_peakByAdding : Cond.code yX8_peakByAdding cX8_peakByAdding 2 (some .int) ∈ AW := AW_in 783 (by decide +kernel) (by decide +kernel)
theorem wi_X8_peakByAdding : Cond.instanceMethod yX8_peakByAdding ∈ AW := AW_in 781 (by decide +kernel) (by decide +kernel)
theorem wl_X8_peakByAdding : Cond.selects RX8 yX8_peakByAdding yX8_peakByAdding ∈ AW := AW_in 782 (by decide +kernel) (by decide +kernel)
theorem np_X8_peakByAdding : yX8_peakByAdding.cls ≠ "java/lang/invoke/MethodHandle" ∧ yX8_peakByAdding.cls ≠ "java/lang/invoke/VarHandle" ∧ (parseMethodDescriptor yX8_peakByAdding.desc).map (fun d => d.parameters.length) = some 1 := ⟨by decide +kernel, by decide +kernel, by decide +kernel⟩
theorem wc_X8_personOf : Cond.code yX8_personOf cX8_personOf 1 (some .int) ∈ AW := AW_in 401 (by decide +kernel) (by decide +kernel)
theorem ws_X8_personOf : Cond.static yX8_personOf ∈ AW := AW_in 400 (by decide +kernel) (by decide +kernel)
theorem np_X8_personOf : yX8_personOf.cls ≠ "java/lang/invoke/MethodHandle" ∧ yX8_personOf.cls ≠ "java/lang/invoke/VarHandle" ∧ (parseMethodDescriptor yX8_personOf.desc).map (fun d => d.parameters.length) = some 1 := ⟨by decide +kernel, by decide +kernel, by decide +kernel⟩
theorem wc_X8_postOf : Cond.code yX8_postOf cX8_postOf 2 (some .int) ∈ AW := AW_in 302 (by decide +kernel) (by decide +kernel)
theorem ws_X8_postOf : Cond.static yX8_postOf ∈ AW := AW_in 301 (by decide +kernel) (by decide +kernel)
theorem np_X8_postOf : yX8_postOf.cls ≠ "java/lang/invoke/MethodHandle" ∧ yX8_postOf.cls ≠ "java/lang/invoke/VarHandle" ∧ (parseMethodDescriptor yX8_postOf.desc).map (fun d => d.parameters.length) = some 2 := ⟨by decide +kernel, by decide +kernel, by decide +kernel⟩
theorem wc_X8_requireBreach : Cond.code yX8_requireBreach cX8_requireBreach 3 (some .int) ∈ AW := AW_in 794 (by decide +kernel) (by decide +kernel)
theorem wi_X8_requireBreach : Cond.instanceMethod yX8_requireBreach ∈ AW := AW_in 793 (by decide +kernel) (by decide +kernel)
theorem wl_X8_requireBreach : Cond.selects RX8 yX8_requireBreach yX8_requireBreach ∈ AW := AW_sel (y := yX8_requireBreach) (n := 9) 11 (by decide +kernel) (by decide +kernel)
theorem np_X8_requireBreach : yX8_requireBreach.cls ≠ "java/lang/invoke/MethodHandle" ∧ yX8_requireBreach.cls ≠ "java/lang/invoke/VarHandle" ∧ (parseMethodDescriptor yX8_requireBreach.desc).map (fun d => d.parameters.length) = some 1 := ⟨by decide +kernel, by decide +kernel, by decide +kernel⟩
theorem wc_X8_requireChange : Cond.code yX8_requireChange cX8_requireChange 2 none ∈ AW := AW_in 977 (by decide +kernel) (by decide +kernel)
theorem wi_X8_requireChange : Cond.instanceMethod yX8_requireChange ∈ AW := AW_in 976 (by decide +kernel) (by decide +kernel)
theorem wl_X8_requireChange : Cond.selects RX8 yX8_requireChange yX8_requireChange ∈ AW := AW_sel (y := yX8_requireChange) (n := 9) 13 (by decide +kernel) (by decide +kernel)
theorem np_X8_requireChange : yX8_requireChange.cls ≠ "java/lang/invoke/MethodHandle" ∧ yX8_requireChange.cls ≠ "java/lang/invoke/VarHandle" ∧ (parseMethodDescriptor yX8_requireChange.desc).map (fun d => d.parameters.length) = some 1 := ⟨by decide +kernel, by decide +kernel, by decide +kernel⟩
theorem wc_X8_requireDay : Cond.code yX8_requireDay cX8_requireDay 1 none ∈ AW := AW_in 698 (by decide +kernel) (by decide +kernel)
theorem ws_X8_requireDay : Cond.static yX8_requireDay ∈ AW := AW_in 697 (by decide +kernel) (by decide +kernel)
theorem np_X8_requireDay : yX8_requireDay.cls ≠ "java/lang/invoke/MethodHandle" ∧ yX8_requireDay.cls ≠ "java/lang/invoke/VarHandle" ∧ (parseMethodDescriptor yX8_requireDay.desc).map (fun d => d.parameters.length) = some 1 := ⟨by decide +kernel, by decide +kernel, by decide +kernel⟩
theorem wc_X8_requirePerson : Cond.code yX8_requirePerson cX8_requirePerson 2 none ∈ AW := AW_in 638 (by decide +kernel) (by decide +kernel)
theorem wi_X8_requirePerson : Cond.instanceMethod yX8_requirePerson ∈ AW := AW_in 637 (by decide +kernel) (by decide +kernel)
theorem wl_X8_requirePerson : Cond.selects RX8 yX8_requirePerson yX8_requirePerson ∈ AW := AW_sel (y := yX8_requirePerson) (n := 9) 10 (by decide +kernel) (by decide +kernel)
theorem np_X8_requirePerson : yX8_requirePerson.cls ≠ "java/lang/invoke/MethodHandle" ∧ yX8_requirePerson.cls ≠ "java/lang/invoke/VarHandle" ∧ (parseMethodDescriptor yX8_requirePerson.desc).map (fun d => d.parameters.length) = some 1 := ⟨by decide +kernel, by decide +kernel, by decide +kernel⟩
theorem wc_X8_requireRange : Cond.code yX8_requireRange cX8_requireRange 3 none ∈ AW := AW_in 549 (by decide +kernel) (by decide +kernel)
theorem ws_X8_requireRange : Cond.static yX8_requireRange ∈ AW := AW_in 548 (by decide +kernel) (by decide +kernel)
theorem np_X8_requireRange : yX8_requireRange.cls ≠ "java/lang/invoke/MethodHandle" ∧ yX8_requireRange.cls ≠ "java/lang/invoke/VarHandle" ∧ (parseMethodDescriptor yX8_requireRange.desc).map (fun d => d.parameters.length) = some 3 := ⟨by decide +kernel, by decide +kernel, by decide +kernel⟩
theorem wc_X8_requireShift : Cond.code yX8_requireShift cX8_requireShift 2 none ∈ AW := AW_in 582 (by decide +kernel) (by decide +kernel)
theorem wi_X8_requireShift : Cond.instanceMethod yX8_requireShift ∈ AW := AW_in 581 (by decide +kernel) (by decide +kernel)
theorem wl_X8_requireShift : Cond.selects RX8 yX8_requireShift yX8_requireShift ∈ AW := AW_sel (y := yX8_requireShift) (n := 9) 9 (by decide +kernel) (by decide +kernel)
theorem np_X8_requireShift : yX8_requireShift.cls ≠ "java/lang/invoke/MethodHandle" ∧ yX8_requireShift.cls ≠ "java/lang/invoke/VarHandle" ∧ (parseMethodDescriptor yX8_requireShift.desc).map (fun d => d.parameters.length) = some 1 := ⟨by decide +kernel, by decide +kernel, by decide +kernel⟩
theorem wc_X8_requireSize : Cond.code yX8_requireSize cX8_requireSize 1 (some .int) ∈ AW := AW_in 942 (by decide +kernel) (by decide +kernel)
theorem ws_X8_requireSize : Cond.static yX8_requireSize ∈ AW := AW_in 941 (by decide +kernel) (by decide +kernel)
theorem np_X8_requireSize : yX8_requireSize.cls ≠ "java/lang/invoke/MethodHandle" ∧ yX8_requireSize.cls ≠ "java/lang/invoke/VarHandle" ∧ (parseMethodDescriptor yX8_requireSize.desc).map (fun d => d.parameters.length) = some 1 := ⟨by decide +kernel, by decide +kernel, by decide +kernel⟩
theorem wc_X8_restBefore : Cond.code yX8_restBefore cX8_restBefore 4 (some .int) ∈ AW := AW_in 748 (by decide +kernel) (by decide +kernel)
theorem wi_X8_restBefore : Cond.instanceMethod yX8_restBefore ∈ AW := AW_in 746 (by decide +kernel) (by decide +kernel)
theorem wl_X8_restBefore : Cond.selects RX8 yX8_restBefore yX8_restBefore ∈ AW := AW_in 747 (by decide +kernel) (by decide +kernel)
theorem np_X8_restBefore : yX8_restBefore.cls ≠ "java/lang/invoke/MethodHandle" ∧ yX8_restBefore.cls ≠ "java/lang/invoke/VarHandle" ∧ (parseMethodDescriptor yX8_restBefore.desc).map (fun d => d.parameters.length) = some 2 := ⟨by decide +kernel, by decide +kernel, by decide +kernel⟩
theorem wc_X8_setAbsent : Cond.code yX8_setAbsent cX8_setAbsent 5 (some .boolean) ∈ AW := AW_in 729 (by decide +kernel) (by decide +kernel)
theorem wi_X8_setAbsent : Cond.instanceMethod yX8_setAbsent ∈ AW := AW_in 727 (by decide +kernel) (by decide +kernel)
theorem wl_X8_setAbsent : Cond.selects RX8 yX8_setAbsent yX8_setAbsent ∈ AW := AW_in 728 (by decide +kernel) (by decide +kernel)
theorem np_X8_setAbsent : yX8_setAbsent.cls ≠ "java/lang/invoke/MethodHandle" ∧ yX8_setAbsent.cls ≠ "java/lang/invoke/VarHandle" ∧ (parseMethodDescriptor yX8_setAbsent.desc).map (fun d => d.parameters.length) = some 3 := ⟨by decide +kernel, by decide +kernel, by decide +kernel⟩
theorem wc_X8_setDemand : Cond.code yX8_setDemand cX8_setDemand 5 (some .int) ∈ AW := AW_in 695 (by decide +kernel) (by decide +kernel)
theorem wi_X8_setDemand : Cond.instanceMethod yX8_setDemand ∈ AW := AW_in 693 (by decide +kernel) (by decide +kernel)
theorem wl_X8_setDemand : Cond.selects RX8 yX8_setDemand yX8_setDemand ∈ AW := AW_in 694 (by decide +kernel) (by decide +kernel)
theorem np_X8_setDemand : yX8_setDemand.cls ≠ "java/lang/invoke/MethodHandle" ∧ yX8_setDemand.cls ≠ "java/lang/invoke/VarHandle" ∧ (parseMethodDescriptor yX8_setDemand.desc).map (fun d => d.parameters.length) = some 3 := ⟨by decide +kernel, by decide +kernel, by decide +kernel⟩
theorem wc_X8_setHours : Cond.code yX8_setHours cX8_setHours 4 (some .int) ∈ AW := AW_in 688 (by decide +kernel) (by decide +kernel)
theorem wi_X8_setHours : Cond.instanceMethod yX8_setHours ∈ AW := AW_in 686 (by decide +kernel) (by decide +kernel)
theorem wl_X8_setHours : Cond.selects RX8 yX8_setHours yX8_setHours ∈ AW := AW_in 687 (by decide +kernel) (by decide +kernel)
theorem np_X8_setHours : yX8_setHours.cls ≠ "java/lang/invoke/MethodHandle" ∧ yX8_setHours.cls ≠ "java/lang/invoke/VarHandle" ∧ (parseMethodDescriptor yX8_setHours.desc).map (fun d => d.parameters.length) = some 2 := ⟨by decide +kernel, by decide +kernel, by decide +kernel⟩
theorem wc_X8_setNights : Cond.code yX8_setNights cX8_setNights 3 (some .int) ∈ AW := AW_in 674 (by decide +kernel) (by decide +kernel)
theorem wi_X8_setNights : Cond.instanceMethod yX8_setNights ∈ AW := AW_in 672 (by decide +kernel) (by decide +kernel)
theorem wl_X8_setNights : Cond.selects RX8 yX8_setNights yX8_setNights ∈ AW := AW_in 673 (by decide +kernel) (by decide +kernel)
theorem np_X8_setNights : yX8_setNights.cls ≠ "java/lang/invoke/MethodHandle" ∧ yX8_setNights.cls ≠ "java/lang/invoke/VarHandle" ∧ (parseMethodDescriptor yX8_setNights.desc).map (fun d => d.parameters.length) = some 1 := ⟨by decide +kernel, by decide +kernel, by decide +kernel⟩
theorem wc_X8_setRest : Cond.code yX8_setRest cX8_setRest 3 (some .int) ∈ AW := AW_in 667 (by decide +kernel) (by decide +kernel)
theorem wi_X8_setRest : Cond.instanceMethod yX8_setRest ∈ AW := AW_in 665 (by decide +kernel) (by decide +kernel)
theorem wl_X8_setRest : Cond.selects RX8 yX8_setRest yX8_setRest ∈ AW := AW_in 666 (by decide +kernel) (by decide +kernel)
theorem np_X8_setRest : yX8_setRest.cls ≠ "java/lang/invoke/MethodHandle" ∧ yX8_setRest.cls ≠ "java/lang/invoke/VarHandle" ∧ (parseMethodDescriptor yX8_setRest.desc).map (fun d => d.parameters.length) = some 1 := ⟨by decide +kernel, by decide +kernel, by decide +kernel⟩
theorem wc_X8_setRun : Cond.code yX8_setRun cX8_setRun 3 (some .int) ∈ AW := AW_in 681 (by decide +kernel) (by decide +kernel)
theorem wi_X8_setRun : Cond.instanceMethod yX8_setRun ∈ AW := AW_in 679 (by decide +kernel) (by decide +kernel)
theorem wl_X8_setRun : Cond.selects RX8 yX8_setRun yX8_setRun ∈ AW := AW_in 680 (by decide +kernel) (by decide +kernel)
theorem np_X8_setRun : yX8_setRun.cls ≠ "java/lang/invoke/MethodHandle" ∧ yX8_setRun.cls ≠ "java/lang/invoke/VarHandle" ∧ (parseMethodDescriptor yX8_setRun.desc).map (fun d => d.parameters.length) = some 1 := ⟨by decide +kernel, by decide +kernel, by decide +kernel⟩
theorem wc_X8_shiftIn : Cond.code yX8_shiftIn cX8_shiftIn 1 (some .int) ∈ AW := AW_in 872 (by decide +kernel) (by decide +kernel)
theorem ws_X8_shiftIn : Cond.static yX8_shiftIn ∈ AW := AW_in 871 (by decide +kernel) (by decide +kernel)
theorem np_X8_shiftIn : yX8_shiftIn.cls ≠ "java/lang/invoke/MethodHandle" ∧ yX8_shiftIn.cls ≠ "java/lang/invoke/VarHandle" ∧ (parseMethodDescriptor yX8_shiftIn.desc).map (fun d => d.parameters.length) = some 1 := ⟨by decide +kernel, by decide +kernel, by decide +kernel⟩
theorem wc_X8_shiftOf : Cond.code yX8_shiftOf cX8_shiftOf 3 (some .int) ∈ AW := AW_in 741 (by decide +kernel) (by decide +kernel)
theorem wi_X8_shiftOf : Cond.instanceMethod yX8_shiftOf ∈ AW := AW_in 739 (by decide +kernel) (by decide +kernel)
theorem wl_X8_shiftOf : Cond.selects RX8 yX8_shiftOf yX8_shiftOf ∈ AW := AW_in 740 (by decide +kernel) (by decide +kernel)
theorem np_X8_shiftOf : yX8_shiftOf.cls ≠ "java/lang/invoke/MethodHandle" ∧ yX8_shiftOf.cls ≠ "java/lang/invoke/VarHandle" ∧ (parseMethodDescriptor yX8_shiftOf.desc).map (fun d => d.parameters.length) = some 2 := ⟨by decide +kernel, by decide +kernel, by decide +kernel⟩
theorem wc_X8_sizeAfterExchange : Cond.code yX8_sizeAfterExchange cX8_sizeAfterExchange 4 (some .int) ∈ AW := AW_in 897 (by decide +kernel) (by decide +kernel)
theorem wi_X8_sizeAfterExchange : Cond.instanceMethod yX8_sizeAfterExchange ∈ AW := AW_in 896 (by decide +kernel) (by decide +kernel)
theorem wl_X8_sizeAfterExchange : Cond.selects RX8 yX8_sizeAfterExchange yX8_sizeAfterExchange ∈ AW := AW_sel (y := yX8_sizeAfterExchange) (n := 9) 12 (by decide +kernel) (by decide +kernel)
theorem np_X8_sizeAfterExchange : yX8_sizeAfterExchange.cls ≠ "java/lang/invoke/MethodHandle" ∧ yX8_sizeAfterExchange.cls ≠ "java/lang/invoke/VarHandle" ∧ (parseMethodDescriptor yX8_sizeAfterExchange.desc).map (fun d => d.parameters.length) = some 3 := ⟨by decide +kernel, by decide +kernel, by decide +kernel⟩
theorem wc_X8_skillOf : Cond.code yX8_skillOf cX8_skillOf 2 (some .int) ∈ AW := AW_in 287 (by decide +kernel) (by decide +kernel)
theorem ws_X8_skillOf : Cond.static yX8_skillOf ∈ AW := AW_in 286 (by decide +kernel) (by decide +kernel)
theorem np_X8_skillOf : yX8_skillOf.cls ≠ "java/lang/invoke/MethodHandle" ∧ yX8_skillOf.cls ≠ "java/lang/invoke/VarHandle" ∧ (parseMethodDescriptor yX8_skillOf.desc).map (fun d => d.parameters.length) = some 2 := ⟨by decide +kernel, by decide +kernel, by decide +kernel⟩
theorem wc_X8_swap : Cond.code yX8_swap cX8_swap 5 (some .int) ∈ AW := AW_in 892 (by decide +kernel) (by decide +kernel)
theorem wi_X8_swap : Cond.instanceMethod yX8_swap ∈ AW := AW_in 890 (by decide +kernel) (by decide +kernel)
theorem wl_X8_swap : Cond.selects RX8 yX8_swap yX8_swap ∈ AW := AW_in 891 (by decide +kernel) (by decide +kernel)
theorem np_X8_swap : yX8_swap.cls ≠ "java/lang/invoke/MethodHandle" ∧ yX8_swap.cls ≠ "java/lang/invoke/VarHandle" ∧ (parseMethodDescriptor yX8_swap.desc).map (fun d => d.parameters.length) = some 3 := ⟨by decide +kernel, by decide +kernel, by decide +kernel⟩
theorem wc_X8_teach : Cond.code yX8_teach cX8_teach 4 (some .boolean) ∈ AW := AW_in 634 (by decide +kernel) (by decide +kernel)
theorem wi_X8_teach : Cond.instanceMethod yX8_teach ∈ AW := AW_in 632 (by decide +kernel) (by decide +kernel)
theorem wl_X8_teach : Cond.selects RX8 yX8_teach yX8_teach ∈ AW := AW_in 633 (by decide +kernel) (by decide +kernel)
theorem np_X8_teach : yX8_teach.cls ≠ "java/lang/invoke/MethodHandle" ∧ yX8_teach.cls ≠ "java/lang/invoke/VarHandle" ∧ (parseMethodDescriptor yX8_teach.desc).map (fun d => d.parameters.length) = some 2 := ⟨by decide +kernel, by decide +kernel, by decide +kernel⟩
theorem wc_X8_workShare : Cond.code yX8_workShare cX8_workShare 4 (some .float) ∈ AW := AW_in 992 (by decide +kernel) (by decide +kernel)
theorem wi_X8_workShare : Cond.instanceMethod yX8_workShare ∈ AW := AW_in 990 (by decide +kernel) (by decide +kernel)
theorem wl_X8_workShare : Cond.selects RX8 yX8_workShare yX8_workShare ∈ AW := AW_in 991 (by decide +kernel) (by decide +kernel)
theorem np_X8_workShare : yX8_workShare.cls ≠ "java/lang/invoke/MethodHandle" ∧ yX8_workShare.cls ≠ "java/lang/invoke/VarHandle" ∧ (parseMethodDescriptor yX8_workShare.desc).map (fun d => d.parameters.length) = some 1 := ⟨by decide +kernel, by decide +kernel, by decide +kernel⟩
theorem wc_X9_addPerson : Cond.code yX9_addPerson cX9_addPerson 1 (some .int) ∈ AW := AW_in 1108 (by decide +kernel) (by decide +kernel)
theorem wi_X9_addPerson : Cond.instanceMethod yX9_addPerson ∈ AW := AW_in 1106 (by decide +kernel) (by decide +kernel)
theorem wl_X9_addPerson : Cond.selects RX9 yX9_addPerson yX9_addPerson ∈ AW := AW_in 1107 (by decide +kernel) (by decide +kernel)
theorem np_X9_addPerson : yX9_addPerson.cls ≠ "java/lang/invoke/MethodHandle" ∧ yX9_addPerson.cls ≠ "java/lang/invoke/VarHandle" ∧ (parseMethodDescriptor yX9_addPerson.desc).map (fun d => d.parameters.length) = some 0 := ⟨by decide +kernel, by decide +kernel, by decide +kernel⟩
theorem wc_X9_addShift : Cond.code yX9_addShift cX9_addShift 3 (some .int) ∈ AW := AW_in 1116 (by decide +kernel) (by decide +kernel)
theorem wi_X9_addShift : Cond.instanceMethod yX9_addShift ∈ AW := AW_in 1114 (by decide +kernel) (by decide +kernel)
theorem wl_X9_addShift : Cond.selects RX9 yX9_addShift yX9_addShift ∈ AW := AW_in 1115 (by decide +kernel) (by decide +kernel)
theorem np_X9_addShift : yX9_addShift.cls ≠ "java/lang/invoke/MethodHandle" ∧ yX9_addShift.cls ≠ "java/lang/invoke/VarHandle" ∧ (parseMethodDescriptor yX9_addShift.desc).map (fun d => d.parameters.length) = some 2 := ⟨by decide +kernel, by decide +kernel, by decide +kernel⟩
theorem wc_X9_assign : Cond.code yX9_assign cX9_assign 5 (some .int) ∈ AW := AW_in 1166 (by decide +kernel) (by decide +kernel)
theorem wi_X9_assign : Cond.instanceMethod yX9_assign ∈ AW := AW_in 1164 (by decide +kernel) (by decide +kernel)
theorem wl_X9_assign : Cond.selects RX9 yX9_assign yX9_assign ∈ AW := AW_in 1165 (by decide +kernel) (by decide +kernel)
theorem np_X9_assign : yX9_assign.cls ≠ "java/lang/invoke/MethodHandle" ∧ yX9_assign.cls ≠ "java/lang/invoke/VarHandle" ∧ (parseMethodDescriptor yX9_assign.desc).map (fun d => d.parameters.length) = some 3 := ⟨by decide +kernel, by decide +kernel, by decide +kernel⟩
theorem wc_X9_at : Cond.code yX9_at cX9_at 3 (some .int) ∈ AW := AW_in 1170 (by decide +kernel) (by decide +kernel)
theorem wi_X9_at : Cond.instanceMethod yX9_at ∈ AW := AW_in 1169 (by decide +kernel) (by decide +kernel)
theorem wl_X9_at : Cond.selects RX9 yX9_at yX9_at ∈ AW := AW_sel (y := yX9_at) (n := 25) 18 (by decide +kernel) (by decide +kernel)
theorem np_X9_at : yX9_at.cls ≠ "java/lang/invoke/MethodHandle" ∧ yX9_at.cls ≠ "java/lang/invoke/VarHandle" ∧ (parseMethodDescriptor yX9_at.desc).map (fun d => d.parameters.length) = some 2 := ⟨by decide +kernel, by decide +kernel, by decide +kernel⟩
theorem wc_X9_breachDay : Cond.code yX9_breachDay cX9_breachDay 2 (some .int) ∈ AW := AW_in 1267 (by decide +kernel) (by decide +kernel)
theorem wi_X9_breachDay : Cond.instanceMethod yX9_breachDay ∈ AW := AW_in 1265 (by decide +kernel) (by decide +kernel)
theorem wl_X9_breachDay : Cond.selects RX9 yX9_breachDay yX9_breachDay ∈ AW := AW_in 1266 (by decide +kernel) (by decide +kernel)
theorem np_X9_breachDay : yX9_breachDay.cls ≠ "java/lang/invoke/MethodHandle" ∧ yX9_breachDay.cls ≠ "java/lang/invoke/VarHandle" ∧ (parseMethodDescriptor yX9_breachDay.desc).map (fun d => d.parameters.length) = some 1 := ⟨by decide +kernel, by decide +kernel, by decide +kernel⟩
theorem wc_X9_breachKind : Cond.code yX9_breachKind cX9_breachKind 2 (some .char) ∈ AW := AW_in 1255 (by decide +kernel) (by decide +kernel)
theorem wi_X9_breachKind : Cond.instanceMethod yX9_breachKind ∈ AW := AW_in 1253 (by decide +kernel) (by decide +kernel)
theorem wl_X9_breachKind : Cond.selects RX9 yX9_breachKind yX9_breachKind ∈ AW := AW_in 1254 (by decide +kernel) (by decide +kernel)
theorem np_X9_breachKind : yX9_breachKind.cls ≠ "java/lang/invoke/MethodHandle" ∧ yX9_breachKind.cls ≠ "java/lang/invoke/VarHandle" ∧ (parseMethodDescriptor yX9_breachKind.desc).map (fun d => d.parameters.length) = some 1 := ⟨by decide +kernel, by decide +kernel, by decide +kernel⟩
theorem wc_X9_breachPerson : Cond.code yX9_breachPerson cX9_breachPerson 2 (some .int) ∈ AW := AW_in 1263 (by decide +kernel) (by decide +kernel)
theorem wi_X9_breachPerson : Cond.instanceMethod yX9_breachPerson ∈ AW := AW_in 1261 (by decide +kernel) (by decide +kernel)
theorem wl_X9_breachPerson : Cond.selects RX9 yX9_breachPerson yX9_breachPerson ∈ AW := AW_in 1262 (by decide +kernel) (by decide +kernel)
theorem np_X9_breachPerson : yX9_breachPerson.cls ≠ "java/lang/invoke/MethodHandle" ∧ yX9_breachPerson.cls ≠ "java/lang/invoke/VarHandle" ∧ (parseMethodDescriptor yX9_breachPerson.desc).map (fun d => d.parameters.length) = some 1 := ⟨by decide +kernel, by decide +kernel, by decide +kernel⟩
theorem wc_X9_breachShift : Cond.code yX9_breachShift cX9_breachShift 2 (some .int) ∈ AW := AW_in 1271 (by decide +kernel) (by decide +kernel)
theorem wi_X9_breachShift : Cond.instanceMethod yX9_breachShift ∈ AW := AW_in 1269 (by decide +kernel) (by decide +kernel)
theorem wl_X9_breachShift : Cond.selects RX9 yX9_breachShift yX9_breachShift ∈ AW := AW_in 1270 (by decide +kernel) (by decide +kernel)
theorem np_X9_breachShift : yX9_breachShift.cls ≠ "java/lang/invoke/MethodHandle" ∧ yX9_breachShift.cls ≠ "java/lang/invoke/VarHandle" ∧ (parseMethodDescriptor yX9_breachShift.desc).map (fun d => d.parameters.length) = some 1 := ⟨by decide +kernel, by decide +kernel, by decide +kernel⟩
theorem wc_X9_breaches : Cond.code yX9_breaches cX9_breaches 1 (some .int) ∈ AW := AW_in 1224 (by decide +kernel) (by decide +kernel)
theorem wi_X9_breaches : Cond.instanceMethod yX9_breaches ∈ AW := AW_in 1222 (by decide +kernel) (by decide +kernel)
theorem wl_X9_breaches : Cond.selects RX9 yX9_breaches yX9_breaches ∈ AW := AW_in 1223 (by decide +kernel) (by decide +kernel)
theorem np_X9_breaches : yX9_breaches.cls ≠ "java/lang/invoke/MethodHandle" ∧ yX9_breaches.cls ≠ "java/lang/invoke/VarHandle" ∧ (parseMethodDescriptor yX9_breaches.desc).map (fun d => d.parameters.length) = some 0 := ⟨by decide +kernel, by decide +kernel, by decide +kernel⟩
theorem wc_X9_breachesOf : Cond.code yX9_breachesOf cX9_breachesOf 4 (some .int) ∈ AW := AW_in 1279 (by decide +kernel) (by decide +kernel)
theorem wi_X9_breachesOf : Cond.instanceMethod yX9_breachesOf ∈ AW := AW_in 1278 (by decide +kernel) (by decide +kernel)
theorem wl_X9_breachesOf : Cond.selects RX9 yX9_breachesOf yX9_breachesOf ∈ AW := AW_sel (y := yX9_breachesOf) (n := 25) 30 (by decide +kernel) (by decide +kernel)
theorem np_X9_breachesOf : yX9_breachesOf.cls ≠ "java/lang/invoke/MethodHandle" ∧ yX9_breachesOf.cls ≠ "java/lang/invoke/VarHandle" ∧ (parseMethodDescriptor yX9_breachesOf.desc).map (fun d => d.parameters.length) = some 1 := ⟨by decide +kernel, by decide +kernel, by decide +kernel⟩
theorem wc_X9_changedCell : Cond.code yX9_changedCell cX9_changedCell 2 (some .int) ∈ AW := AW_in 1332 (by decide +kernel) (by decide +kernel)
theorem wi_X9_changedCell : Cond.instanceMethod yX9_changedCell ∈ AW := AW_in 1330 (by decide +kernel) (by decide +kernel)
theorem wl_X9_changedCell : Cond.selects RX9 yX9_changedCell yX9_changedCell ∈ AW := AW_in 1331 (by decide +kernel) (by decide +kernel)
theorem np_X9_changedCell : yX9_changedCell.cls ≠ "java/lang/invoke/MethodHandle" ∧ yX9_changedCell.cls ≠ "java/lang/invoke/VarHandle" ∧ (parseMethodDescriptor yX9_changedCell.desc).map (fun d => d.parameters.length) = some 1 := ⟨by decide +kernel, by decide +kernel, by decide +kernel⟩
theorem wc_X9_changedValue : Cond.code yX9_changedValue cX9_changedValue 2 (some .int) ∈ AW := AW_in 1336 (by decide +kernel) (by decide +kernel)
theorem wi_X9_changedValue : Cond.instanceMethod yX9_changedValue ∈ AW := AW_in 1334 (by decide +kernel) (by decide +kernel)
theorem wl_X9_changedValue : Cond.selects RX9 yX9_changedValue yX9_changedValue ∈ AW := AW_in 1335 (by decide +kernel) (by decide +kernel)
theorem np_X9_changedValue : yX9_changedValue.cls ≠ "java/lang/invoke/MethodHandle" ∧ yX9_changedValue.cls ≠ "java/lang/invoke/VarHandle" ∧ (parseMethodDescriptor yX9_changedValue.desc).map (fun d => d.parameters.length) = some 1 := ⟨by decide +kernel, by decide +kernel, by decide +kernel⟩
theorem wc_X9_exchanges : Cond.code yX9_exchanges cX9_exchanges 5 none ∈ AW := AW_in 1295 (by decide +kernel) (by decide +kernel)
theorem wi_X9_exchanges : Cond.instanceMethod yX9_exchanges ∈ AW := AW_in 1294 (by decide +kernel) (by decide +kernel)
theorem wl_X9_exchanges : Cond.selects RX9 yX9_exchanges yX9_exchanges ∈ AW := AW_sel (y := yX9_exchanges) (n := 25) 33 (by decide +kernel) (by decide +kernel)
theorem np_X9_exchanges : yX9_exchanges.cls ≠ "java/lang/invoke/MethodHandle" ∧ yX9_exchanges.cls ≠ "java/lang/invoke/VarHandle" ∧ (parseMethodDescriptor yX9_exchanges.desc).map (fun d => d.parameters.length) = some 3 := ⟨by decide +kernel, by decide +kernel, by decide +kernel⟩
theorem wc_X9_free : Cond.code yX9_free cX9_free 5 (some .int) ∈ AW := AW_in 1174 (by decide +kernel) (by decide +kernel)
theorem wi_X9_free : Cond.instanceMethod yX9_free ∈ AW := AW_in 1172 (by decide +kernel) (by decide +kernel)
theorem wl_X9_free : Cond.selects RX9 yX9_free yX9_free ∈ AW := AW_in 1173 (by decide +kernel) (by decide +kernel)
theorem np_X9_free : yX9_free.cls ≠ "java/lang/invoke/MethodHandle" ∧ yX9_free.cls ≠ "java/lang/invoke/VarHandle" ∧ (parseMethodDescriptor yX9_free.desc).map (fun d => d.parameters.length) = some 2 := ⟨by decide +kernel, by decide +kernel, by decide +kernel⟩
theorem wc_X9_goesOn : Cond.code yX9_goesOn cX9_goesOn 2 (some .boolean) ∈ AW := AW_in 1112 (by decide +kernel) (by decide +kernel)
theorem wi_X9_goesOn : Cond.instanceMethod yX9_goesOn ∈ AW := AW_in 1111 (by decide +kernel) (by decide +kernel)
theorem wl_X9_goesOn : Cond.selects RX9 yX9_goesOn yX9_goesOn ∈ AW := AW_sel (y := yX9_goesOn) (n := 25) 14 (by decide +kernel) (by decide +kernel)
theorem np_X9_goesOn : yX9_goesOn.cls ≠ "java/lang/invoke/MethodHandle" ∧ yX9_goesOn.cls ≠ "java/lang/invoke/VarHandle" ∧ (parseMethodDescriptor yX9_goesOn.desc).map (fun d => d.parameters.length) = some 1 := ⟨by decide +kernel, by decide +kernel, by decide +kernel⟩
theorem wc_X9_in : Cond.code yX9_in cX9_in 3 (some .boolean) ∈ AW := AW_in 1119 (by decide +kernel) (by decide +kernel)
theorem ws_X9_in : Cond.static yX9_in ∈ AW := AW_in 1118 (by decide +kernel) (by decide +kernel)
theorem np_X9_in : yX9_in.cls ≠ "java/lang/invoke/MethodHandle" ∧ yX9_in.cls ≠ "java/lang/invoke/VarHandle" ∧ (parseMethodDescriptor yX9_in.desc).map (fun d => d.parameters.length) = some 3 := ⟨by decide +kernel, by decide +kernel, by decide +kernel⟩
theorem wc_X9_init : Cond.code yX9_init cX9_init 2 none ∈ AW := AW_in 1022 (by decide +kernel) (by decide +kernel)
theorem wi_X9_init : Cond.instanceMethod yX9_init ∈ AW := AW_in 1021 (by decide +kernel) (by decide +kernel)
theorem np_X9_init : yX9_init.cls ≠ "java/lang/invoke/MethodHandle" ∧ yX9_init.cls ≠ "java/lang/invoke/VarHandle" ∧ (parseMethodDescriptor yX9_init.desc).map (fun d => d.parameters.length) = some 0 := ⟨by decide +kernel, by decide +kernel, by decide +kernel⟩
theorem wc_X9_isBreach : Cond.code yX9_isBreach cX9_isBreach 5 (some .boolean) ∈ AW := AW_in 1232 (by decide +kernel) (by decide +kernel)
theorem wi_X9_isBreach : Cond.instanceMethod yX9_isBreach ∈ AW := AW_in 1231 (by decide +kernel) (by decide +kernel)
theorem wl_X9_isBreach : Cond.selects RX9 yX9_isBreach yX9_isBreach ∈ AW := AW_sel (y := yX9_isBreach) (n := 25) 24 (by decide +kernel) (by decide +kernel)
theorem np_X9_isBreach : yX9_isBreach.cls ≠ "java/lang/invoke/MethodHandle" ∧ yX9_isBreach.cls ≠ "java/lang/invoke/VarHandle" ∧ (parseMethodDescriptor yX9_isBreach.desc).map (fun d => d.parameters.length) = some 3 := ⟨by decide +kernel, by decide +kernel, by decide +kernel⟩
theorem wc_X9_isDay : Cond.code yX9_isDay cX9_isDay 1 (some .boolean) ∈ AW := AW_in 1162 (by decide +kernel) (by decide +kernel)
theorem ws_X9_isDay : Cond.static yX9_isDay ∈ AW := AW_in 1161 (by decide +kernel) (by decide +kernel)
theorem np_X9_isDay : yX9_isDay.cls ≠ "java/lang/invoke/MethodHandle" ∧ yX9_isDay.cls ≠ "java/lang/invoke/VarHandle" ∧ (parseMethodDescriptor yX9_isDay.desc).map (fun d => d.parameters.length) = some 1 := ⟨by decide +kernel, by decide +kernel, by decide +kernel⟩
theorem wc_X9_isFair : Cond.code yX9_isFair cX9_isFair 6 (some .boolean) ∈ AW := AW_in 1287 (by decide +kernel) (by decide +kernel)
theorem wi_X9_isFair : Cond.instanceMethod yX9_isFair ∈ AW := AW_in 1286 (by decide +kernel) (by decide +kernel)
theorem wl_X9_isFair : Cond.selects RX9 yX9_isFair yX9_isFair ∈ AW := AW_sel (y := yX9_isFair) (n := 25) 31 (by decide +kernel) (by decide +kernel)
theorem np_X9_isFair : yX9_isFair.cls ≠ "java/lang/invoke/MethodHandle" ∧ yX9_isFair.cls ≠ "java/lang/invoke/VarHandle" ∧ (parseMethodDescriptor yX9_isFair.desc).map (fun d => d.parameters.length) = some 3 := ⟨by decide +kernel, by decide +kernel, by decide +kernel⟩
theorem wc_X9_isLawful : Cond.code yX9_isLawful cX9_isLawful 3 (some .boolean) ∈ AW := AW_in 1319 (by decide +kernel) (by decide +kernel)
theorem wi_X9_isLawful : Cond.instanceMethod yX9_isLawful ∈ AW := AW_in 1318 (by decide +kernel) (by decide +kernel)
theorem wl_X9_isLawful : Cond.selects RX9 yX9_isLawful yX9_isLawful ∈ AW := AW_sel (y := yX9_isLawful) (n := 25) 37 (by decide +kernel) (by decide +kernel)
theorem np_X9_isLawful : yX9_isLawful.cls ≠ "java/lang/invoke/MethodHandle" ∧ yX9_isLawful.cls ≠ "java/lang/invoke/VarHandle" ∧ (parseMethodDescriptor yX9_isLawful.desc).map (fun d => d.parameters.length) = some 0 := ⟨by decide +kernel, by decide +kernel, by decide +kernel⟩
theorem wc_X9_isNight : Cond.code yX9_isNight cX9_isNight 2 (some .boolean) ∈ AW := AW_in 1123 (by decide +kernel) (by decide +kernel)
theorem wi_X9_isNight : Cond.instanceMethod yX9_isNight ∈ AW := AW_in 1121 (by decide +kernel) (by decide +kernel)
theorem wl_X9_isNight : Cond.selects RX9 yX9_isNight yX9_isNight ∈ AW := AW_in 1122 (by decide +kernel) (by decide +kernel)
theorem np_X9_isNight : yX9_isNight.cls ≠ "java/lang/invoke/MethodHandle" ∧ yX9_isNight.cls ≠ "java/lang/invoke/VarHandle" ∧ (parseMethodDescriptor yX9_isNight.desc).map (fun d => d.parameters.length) = some 1 := ⟨by decide +kernel, by decide +kernel, by decide +kernel⟩
theorem wc_X9_isNightShift : Cond.code yX9_isNightShift cX9_isNightShift 2 (some .boolean) ∈ AW := AW_in 1131 (by decide +kernel) (by decide +kernel)
theorem wi_X9_isNightShift : Cond.instanceMethod yX9_isNightShift ∈ AW := AW_in 1130 (by decide +kernel) (by decide +kernel)
theorem wl_X9_isNightShift : Cond.selects RX9 yX9_isNightShift yX9_isNightShift ∈ AW := AW_sel (y := yX9_isNightShift) (n := 25) 16 (by decide +kernel) (by decide +kernel)
theorem np_X9_isNightShift : yX9_isNightShift.cls ≠ "java/lang/invoke/MethodHandle" ∧ yX9_isNightShift.cls ≠ "java/lang/invoke/VarHandle" ∧ (parseMethodDescriptor yX9_isNightShift.desc).map (fun d => d.parameters.length) = some 1 := ⟨by decide +kernel, by decide +kernel, by decide +kernel⟩
theorem wc_X9_isPerson : Cond.code yX9_isPerson cX9_isPerson 2 (some .boolean) ∈ AW := AW_in 1139 (by decide +kernel) (by decide +kernel)
theorem wi_X9_isPerson : Cond.instanceMethod yX9_isPerson ∈ AW := AW_in 1138 (by decide +kernel) (by decide +kernel)
theorem wl_X9_isPerson : Cond.selects RX9 yX9_isPerson yX9_isPerson ∈ AW := AW_sel (y := yX9_isPerson) (n := 25) 17 (by decide +kernel) (by decide +kernel)
theorem np_X9_isPerson : yX9_isPerson.cls ≠ "java/lang/invoke/MethodHandle" ∧ yX9_isPerson.cls ≠ "java/lang/invoke/VarHandle" ∧ (parseMethodDescriptor yX9_isPerson.desc).map (fun d => d.parameters.length) = some 1 := ⟨by decide +kernel, by decide +kernel, by decide +kernel⟩
theorem wc_X9_isRestShort : Cond.code yX9_isRestShort cX9_isRestShort 3 (some .boolean) ∈ AW := AW_in 1236 (by decide +kernel) (by decide +kernel)
theorem wi_X9_isRestShort : Cond.instanceMethod yX9_isRestShort ∈ AW := AW_in 1235 (by decide +kernel) (by decide +kernel)
theorem wl_X9_isRestShort : Cond.selects RX9 yX9_isRestShort yX9_isRestShort ∈ AW := AW_sel (y := yX9_isRestShort) (n := 25) 25 (by decide +kernel) (by decide +kernel)
theorem np_X9_isRestShort : yX9_isRestShort.cls ≠ "java/lang/invoke/MethodHandle" ∧ yX9_isRestShort.cls ≠ "java/lang/invoke/VarHandle" ∧ (parseMethodDescriptor yX9_isRestShort.desc).map (fun d => d.parameters.length) = some 2 := ⟨by decide +kernel, by decide +kernel, by decide +kernel⟩
theorem wc_X9_isRow : Cond.code yX9_isRow cX9_isRow 7 (some .boolean) ∈ AW := AW_in 1240 (by decide +kernel) (by decide +kernel)
theorem wi_X9_isRow : Cond.instanceMethod yX9_isRow ∈ AW := AW_in 1239 (by decide +kernel) (by decide +kernel)
theorem wl_X9_isRow : Cond.selects RX9 yX9_isRow yX9_isRow ∈ AW := AW_sel (y := yX9_isRow) (n := 25) 26 (by decide +kernel) (by decide +kernel)
theorem np_X9_isRow : yX9_isRow.cls ≠ "java/lang/invoke/MethodHandle" ∧ yX9_isRow.cls ≠ "java/lang/invoke/VarHandle" ∧ (parseMethodDescriptor yX9_isRow.desc).map (fun d => d.parameters.length) = some 4 := ⟨by decide +kernel, by decide +kernel, by decide +kernel⟩
theorem wc_X9_isShift : Cond.code yX9_isShift cX9_isShift 2 (some .boolean) ∈ AW := AW_in 1127 (by decide +kernel) (by decide +kernel)
theorem wi_X9_isShift : Cond.instanceMethod yX9_isShift ∈ AW := AW_in 1126 (by decide +kernel) (by decide +kernel)
theorem wl_X9_isShift : Cond.selects RX9 yX9_isShift yX9_isShift ∈ AW := AW_sel (y := yX9_isShift) (n := 25) 15 (by decide +kernel) (by decide +kernel)
theorem np_X9_isShift : yX9_isShift.cls ≠ "java/lang/invoke/MethodHandle" ∧ yX9_isShift.cls ≠ "java/lang/invoke/VarHandle" ∧ (parseMethodDescriptor yX9_isShift.desc).map (fun d => d.parameters.length) = some 1 := ⟨by decide +kernel, by decide +kernel, by decide +kernel⟩
theorem wc_X9_isSound : Cond.code yX9_isSound cX9_isSound 1 (some .boolean) ∈ AW := AW_in 1353 (by decide +kernel) (by decide +kernel)
theorem wi_X9_isSound : Cond.instanceMethod yX9_isSound ∈ AW := AW_in 1351 (by decide +kernel) (by decide +kernel)
theorem wl_X9_isSound : Cond.selects RX9 yX9_isSound yX9_isSound ∈ AW := AW_in 1352 (by decide +kernel) (by decide +kernel)
theorem np_X9_isSound : yX9_isSound.cls ≠ "java/lang/invoke/MethodHandle" ∧ yX9_isSound.cls ≠ "java/lang/invoke/VarHandle" ∧ (parseMethodDescriptor yX9_isSound.desc).map (fun d => d.parameters.length) = some 0 := ⟨by decide +kernel, by decide +kernel, by decide +kernel⟩
theorem wc_X9_lastBefore : Cond.code yX9_lastBefore cX9_lastBefore 4 (some .int) ∈ AW := AW_in 1190 (by decide +kernel) (by decide +kernel)
theorem wi_X9_lastBefore : Cond.instanceMethod yX9_lastBefore ∈ AW := AW_in 1189 (by decide +kernel) (by decide +kernel)
theorem wl_X9_lastBefore : Cond.selects RX9 yX9_lastBefore yX9_lastBefore ∈ AW := AW_sel (y := yX9_lastBefore) (n := 25) 19 (by decide +kernel) (by decide +kernel)
theorem np_X9_lastBefore : yX9_lastBefore.cls ≠ "java/lang/invoke/MethodHandle" ∧ yX9_lastBefore.cls ≠ "java/lang/invoke/VarHandle" ∧ (parseMethodDescriptor yX9_lastBefore.desc).map (fun d => d.parameters.length) = some 2 := ⟨by decide +kernel, by decide +kernel, by decide +kernel⟩
theorem wc_X9_leastByTrial : Cond.code yX9_leastByTrial cX9_leastByTrial 1 (some .int) ∈ AW := AW_in 1323 (by decide +kernel) (by decide +kernel)
theorem wi_X9_leastByTrial : Cond.instanceMethod yX9_leastByTrial ∈ AW := AW_in 1321 (by decide +kernel) (by decide +kernel)
theorem wl_X9_leastByTrial : Cond.selects RX9 yX9_leastByTrial yX9_leastByTrial ∈ AW := AW_in 1322 (by decide +kernel) (by decide +kernel)
theorem np_X9_leastByTrial : yX9_leastByTrial.cls ≠ "java/lang/invoke/MethodHandle" ∧ yX9_leastByTrial.cls ≠ "java/lang/invoke/VarHandle" ∧ (parseMethodDescriptor yX9_leastByTrial.desc).map (fun d => d.parameters.length) = some 0 := ⟨by decide +kernel, by decide +kernel, by decide +kernel⟩
theorem wc_X9_leastChanges : Cond.code yX9_leastChanges cX9_leastChanges 2 (some .int) ∈ AW := AW_in 1307 (by decide +kernel) (by decide +kernel)
theorem wi_X9_leastChanges : Cond.instanceMethod yX9_leastChanges ∈ AW := AW_in 1305 (by decide +kernel) (by decide +kernel)
theorem wl_X9_leastChanges : Cond.selects RX9 yX9_leastChanges yX9_leastChanges ∈ AW := AW_in 1306 (by decide +kernel) (by decide +kernel)
theorem np_X9_leastChanges : yX9_leastChanges.cls ≠ "java/lang/invoke/MethodHandle" ∧ yX9_leastChanges.cls ≠ "java/lang/invoke/VarHandle" ∧ (parseMethodDescriptor yX9_leastChanges.desc).map (fun d => d.parameters.length) = some 0 := ⟨by decide +kernel, by decide +kernel, by decide +kernel⟩
theorem wc_X9_leastSize : Cond.code yX9_leastSize cX9_leastSize 2 (some .int) ∈ AW := AW_in 1311 (by decide +kernel) (by decide +kernel)
theorem wi_X9_leastSize : Cond.instanceMethod yX9_leastSize ∈ AW := AW_in 1310 (by decide +kernel) (by decide +kernel)
theorem wl_X9_leastSize : Cond.selects RX9 yX9_leastSize yX9_leastSize ∈ AW := AW_sel (y := yX9_leastSize) (n := 25) 35 (by decide +kernel) (by decide +kernel)
theorem np_X9_leastSize : yX9_leastSize.cls ≠ "java/lang/invoke/MethodHandle" ∧ yX9_leastSize.cls ≠ "java/lang/invoke/VarHandle" ∧ (parseMethodDescriptor yX9_leastSize.desc).map (fun d => d.parameters.length) = some 0 := ⟨by decide +kernel, by decide +kernel, by decide +kernel⟩
theorem wc_X9_letter : Cond.code yX9_letter cX9_letter 1 (some .char) ∈ AW := AW_in 1243 (by decide +kernel) (by decide +kernel)
theorem ws_X9_letter : Cond.static yX9_letter ∈ AW := AW_in 1242 (by decide +kernel) (by decide +kernel)
theorem np_X9_letter : yX9_letter.cls ≠ "java/lang/invoke/MethodHandle" ∧ yX9_letter.cls ≠ "java/lang/invoke/VarHandle" ∧ (parseMethodDescriptor yX9_letter.desc).map (fun d => d.parameters.length) = some 1 := ⟨by decide +kernel, by decide +kernel, by decide +kernel⟩
theorem wc_X9_longestByRows : Cond.code yX9_longestByRows cX9_longestByRows 2 (some .int) ∈ AW := AW_in 1206 (by decide +kernel) (by decide +kernel)
theorem wi_X9_longestByRows : Cond.instanceMethod yX9_longestByRows ∈ AW := AW_in 1204 (by decide +kernel) (by decide +kernel)
theorem wl_X9_longestByRows : Cond.selects RX9 yX9_longestByRows yX9_longestByRows ∈ AW := AW_in 1205 (by decide +kernel) (by decide +kernel)
theorem np_X9_longestByRows : yX9_longestByRows.cls ≠ "java/lang/invoke/MethodHandle" ∧ yX9_longestByRows.cls ≠ "java/lang/invoke/VarHandle" ∧ (parseMethodDescriptor yX9_longestByRows.desc).map (fun d => d.parameters.length) = some 1 := ⟨by decide +kernel, by decide +kernel, by decide +kernel⟩
theorem wc_X9_longestNights : Cond.code yX9_longestNights cX9_longestNights 2 (some .int) ∈ AW := AW_in 1198 (by decide +kernel) (by decide +kernel)
theorem wi_X9_longestNights : Cond.instanceMethod yX9_longestNights ∈ AW := AW_in 1196 (by decide +kernel) (by decide +kernel)
theorem wl_X9_longestNights : Cond.selects RX9 yX9_longestNights yX9_longestNights ∈ AW := AW_in 1197 (by decide +kernel) (by decide +kernel)
theorem np_X9_longestNights : yX9_longestNights.cls ≠ "java/lang/invoke/MethodHandle" ∧ yX9_longestNights.cls ≠ "java/lang/invoke/VarHandle" ∧ (parseMethodDescriptor yX9_longestNights.desc).map (fun d => d.parameters.length) = some 1 := ⟨by decide +kernel, by decide +kernel, by decide +kernel⟩
theorem wc_X9_meanRest : Cond.code yX9_meanRest cX9_meanRest 5 (some .double) ∈ AW := AW_in 1349 (by decide +kernel) (by decide +kernel)
theorem wi_X9_meanRest : Cond.instanceMethod yX9_meanRest ∈ AW := AW_in 1347 (by decide +kernel) (by decide +kernel)
theorem wl_X9_meanRest : Cond.selects RX9 yX9_meanRest yX9_meanRest ∈ AW := AW_in 1348 (by decide +kernel) (by decide +kernel)
theorem np_X9_meanRest : yX9_meanRest.cls ≠ "java/lang/invoke/MethodHandle" ∧ yX9_meanRest.cls ≠ "java/lang/invoke/VarHandle" ∧ (parseMethodDescriptor yX9_meanRest.desc).map (fun d => d.parameters.length) = some 1 := ⟨by decide +kernel, by decide +kernel, by decide +kernel⟩
theorem wc_X9_mend : Cond.code yX9_mend cX9_mend 3 (some .int) ∈ AW := AW_in 1328 (by decide +kernel) (by decide +kernel)
theorem wi_X9_mend : Cond.instanceMethod yX9_mend ∈ AW := AW_in 1326 (by decide +kernel) (by decide +kernel)
theorem wl_X9_mend : Cond.selects RX9 yX9_mend yX9_mend ∈ AW := AW_in 1327 (by decide +kernel) (by decide +kernel)
theorem np_X9_mend : yX9_mend.cls ≠ "java/lang/invoke/MethodHandle" ∧ yX9_mend.cls ≠ "java/lang/invoke/VarHandle" ∧ (parseMethodDescriptor yX9_mend.desc).map (fun d => d.parameters.length) = some 0 := ⟨by decide +kernel, by decide +kernel, by decide +kernel⟩
theorem wc_X9_mends : Cond.code yX9_mends cX9_mends 8 (some .boolean) ∈ AW := AW_in 1315 (by decide +kernel) (by decide +kernel)
theorem wi_X9_mends : Cond.instanceMethod yX9_mends ∈ AW := AW_in 1314 (by decide +kernel) (by decide +kernel)
theorem wl_X9_mends : Cond.selects RX9 yX9_mends yX9_mends ∈ AW := AW_sel (y := yX9_mends) (n := 25) 36 (by decide +kernel) (by decide +kernel)
theorem np_X9_mends : yX9_mends.cls ≠ "java/lang/invoke/MethodHandle" ∧ yX9_mends.cls ≠ "java/lang/invoke/VarHandle" ∧ (parseMethodDescriptor yX9_mends.desc).map (fun d => d.parameters.length) = some 3 := ⟨by decide +kernel, by decide +kernel, by decide +kernel⟩
theorem wc_X9_minutes : Cond.code yX9_minutes cX9_minutes 4 (some .long) ∈ AW := AW_in 1340 (by decide +kernel) (by decide +kernel)
theorem wi_X9_minutes : Cond.instanceMethod yX9_minutes ∈ AW := AW_in 1338 (by decide +kernel) (by decide +kernel)
theorem wl_X9_minutes : Cond.selects RX9 yX9_minutes yX9_minutes ∈ AW := AW_in 1339 (by decide +kernel) (by decide +kernel)
theorem np_X9_minutes : yX9_minutes.cls ≠ "java/lang/invoke/MethodHandle" ∧ yX9_minutes.cls ≠ "java/lang/invoke/VarHandle" ∧ (parseMethodDescriptor yX9_minutes.desc).map (fun d => d.parameters.length) = some 0 := ⟨by decide +kernel, by decide +kernel, by decide +kernel⟩
theorem wc_X9_minutesBefore : Cond.code yX9_minutesBefore cX9_minutesBefore 4 (some .int) ∈ AW := AW_in 1194 (by decide +kernel) (by decide +kernel)
theorem wi_X9_minutesBefore : Cond.instanceMethod yX9_minutesBefore ∈ AW := AW_in 1193 (by decide +kernel) (by decide +kernel)
theorem wl_X9_minutesBefore : Cond.selects RX9 yX9_minutesBefore yX9_minutesBefore ∈ AW := AW_sel (y := yX9_minutesBefore) (n := 25) 20 (by decide +kernel) (by decide +kernel)
theorem np_X9_minutesBefore : yX9_minutesBefore.cls ≠ "java/lang/invoke/MethodHandle" ∧ yX9_minutesBefore.cls ≠ "java/lang/invoke/VarHandle" ∧ (parseMethodDescriptor yX9_minutesBefore.desc).map (fun d => d.parameters.length) = some 2 := ⟨by decide +kernel, by decide +kernel, by decide +kernel⟩
theorem wc_X9_mostBreaches : Cond.code yX9_mostBreaches cX9_mostBreaches 4 (some .int) ∈ AW := AW_in 1275 (by decide +kernel) (by decide +kernel)
theorem wi_X9_mostBreaches : Cond.instanceMethod yX9_mostBreaches ∈ AW := AW_in 1273 (by decide +kernel) (by decide +kernel)
theorem wl_X9_mostBreaches : Cond.selects RX9 yX9_mostBreaches yX9_mostBreaches ∈ AW := AW_in 1274 (by decide +kernel) (by decide +kernel)
theorem np_X9_mostBreaches : yX9_mostBreaches.cls ≠ "java/lang/invoke/MethodHandle" ∧ yX9_mostBreaches.cls ≠ "java/lang/invoke/VarHandle" ∧ (parseMethodDescriptor yX9_mostBreaches.desc).map (fun d => d.parameters.length) = some 0 := ⟨by decide +kernel, by decide +kernel, by decide +kernel⟩
theorem wc_X9_onShift : Cond.code yX9_onShift cX9_onShift 5 (some .int) ∈ AW := AW_in 1251 (by decide +kernel) (by decide +kernel)
theorem wi_X9_onShift : Cond.instanceMethod yX9_onShift ∈ AW := AW_in 1250 (by decide +kernel) (by decide +kernel)
theorem wl_X9_onShift : Cond.selects RX9 yX9_onShift yX9_onShift ∈ AW := AW_sel (y := yX9_onShift) (n := 25) 28 (by decide +kernel) (by decide +kernel)
theorem np_X9_onShift : yX9_onShift.cls ≠ "java/lang/invoke/MethodHandle" ∧ yX9_onShift.cls ≠ "java/lang/invoke/VarHandle" ∧ (parseMethodDescriptor yX9_onShift.desc).map (fun d => d.parameters.length) = some 2 := ⟨by decide +kernel, by decide +kernel, by decide +kernel⟩
theorem wc_X9_partner : Cond.code yX9_partner cX9_partner 5 (some .int) ∈ AW := AW_in 1299 (by decide +kernel) (by decide +kernel)
theorem wi_X9_partner : Cond.instanceMethod yX9_partner ∈ AW := AW_in 1297 (by decide +kernel) (by decide +kernel)
theorem wl_X9_partner : Cond.selects RX9 yX9_partner yX9_partner ∈ AW := AW_in 1298 (by decide +kernel) (by decide +kernel)
theorem np_X9_partner : yX9_partner.cls ≠ "java/lang/invoke/MethodHandle" ∧ yX9_partner.cls ≠ "java/lang/invoke/VarHandle" ∧ (parseMethodDescriptor yX9_partner.desc).map (fun d => d.parameters.length) = some 2 := ⟨by decide +kernel, by decide +kernel, by decide +kernel⟩
theorem wc_X9_partnerOf : Cond.code yX9_partnerOf cX9_partnerOf 5 (some .int) ∈ AW := AW_in 1303 (by decide +kernel) (by decide +kernel)
theorem wi_X9_partnerOf : Cond.instanceMethod yX9_partnerOf ∈ AW := AW_in 1302 (by decide +kernel) (by decide +kernel)
theorem wl_X9_partnerOf : Cond.selects RX9 yX9_partnerOf yX9_partnerOf ∈ AW := AW_sel (y := yX9_partnerOf) (n := 25) 34 (by decide +kernel) (by decide +kernel)
theorem np_X9_partnerOf : yX9_partnerOf.cls ≠ "java/lang/invoke/MethodHandle" ∧ yX9_partnerOf.cls ≠ "java/lang/invoke/VarHandle" ∧ (parseMethodDescriptor yX9_partnerOf.desc).map (fun d => d.parameters.length) = some 2 := ⟨by decide +kernel, by decide +kernel, by decide +kernel⟩
theorem wc_X9_peak : Cond.code yX9_peak cX9_peak 5 (some .int) ∈ AW := AW_in 1211 (by decide +kernel) (by decide +kernel)
theorem wi_X9_peak : Cond.instanceMethod yX9_peak ∈ AW := AW_in 1209 (by decide +kernel) (by decide +kernel)
theorem wl_X9_peak : Cond.selects RX9 yX9_peak yX9_peak ∈ AW := AW_in 1210 (by decide +kernel) (by decide +kernel)
theorem np_X9_peak : yX9_peak.cls ≠ "java/lang/invoke/MethodHandle" ∧ yX9_peak.cls ≠ "java/lang/invoke/VarHandle" ∧ (parseMethodDescriptor yX9_peak.desc).map (fun d => d.parameters.length) = some 1 := ⟨by decide +kernel, by decide +kernel, by decide +kernel⟩
theorem wc_X9_peakByAdding : Cond.code yX9_peakByAdding cX9_peakByAdding 2 (some .int) ∈ AW := AW_in 1219 (by decide +kernel) (by decide +kernel)
theorem wi_X9_peakByAdding : Cond.instanceMethod yX9_peakByAdding ∈ AW := AW_in 1217 (by decide +kernel) (by decide +kernel)
theorem wl_X9_peakByAdding : Cond.selects RX9 yX9_peakByAdding yX9_peakByAdding ∈ AW := AW_in 1218 (by decide +kernel) (by decide +kernel)
theorem np_X9_peakByAdding : yX9_peakByAdding.cls ≠ "java/lang/invoke/MethodHandle" ∧ yX9_peakByAdding.cls ≠ "java/lang/invoke/VarHandle" ∧ (parseMethodDescriptor yX9_peakByAdding.desc).map (fun d => d.parameters.length) = some 1 := ⟨by decide +kernel, by decide +kernel, by decide +kernel⟩
theorem wc_X9_placeOf : Cond.code yX9_placeOf cX9_placeOf 3 (some .int) ∈ AW := AW_in 1291 (by decide +kernel) (by decide +kernel)
theorem wi_X9_placeOf : Cond.instanceMethod yX9_placeOf ∈ AW := AW_in 1290 (by decide +kernel) (by decide +kernel)
theorem wl_X9_placeOf : Cond.selects RX9 yX9_placeOf yX9_placeOf ∈ AW := AW_sel (y := yX9_placeOf) (n := 25) 32 (by decide +kernel) (by decide +kernel)
theorem np_X9_placeOf : yX9_placeOf.cls ≠ "java/lang/invoke/MethodHandle" ∧ yX9_placeOf.cls ≠ "java/lang/invoke/VarHandle" ∧ (parseMethodDescriptor yX9_placeOf.desc).map (fun d => d.parameters.length) = some 1 := ⟨by decide +kernel, by decide +kernel, by decide +kernel⟩
theorem wc_X9_restBefore : Cond.code yX9_restBefore cX9_restBefore 4 (some .int) ∈ AW := AW_in 1186 (by decide +kernel) (by decide +kernel)
theorem wi_X9_restBefore : Cond.instanceMethod yX9_restBefore ∈ AW := AW_in 1184 (by decide +kernel) (by decide +kernel)
theorem wl_X9_restBefore : Cond.selects RX9 yX9_restBefore yX9_restBefore ∈ AW := AW_in 1185 (by decide +kernel) (by decide +kernel)
theorem np_X9_restBefore : yX9_restBefore.cls ≠ "java/lang/invoke/MethodHandle" ∧ yX9_restBefore.cls ≠ "java/lang/invoke/VarHandle" ∧ (parseMethodDescriptor yX9_restBefore.desc).map (fun d => d.parameters.length) = some 2 := ⟨by decide +kernel, by decide +kernel, by decide +kernel⟩
theorem wc_X9_rowOf : Cond.code yX9_rowOf cX9_rowOf 5 (some .int) ∈ AW := AW_in 1202 (by decide +kernel) (by decide +kernel)
theorem wi_X9_rowOf : Cond.instanceMethod yX9_rowOf ∈ AW := AW_in 1201 (by decide +kernel) (by decide +kernel)
theorem wl_X9_rowOf : Cond.selects RX9 yX9_rowOf yX9_rowOf ∈ AW := AW_sel (y := yX9_rowOf) (n := 25) 21 (by decide +kernel) (by decide +kernel)
theorem np_X9_rowOf : yX9_rowOf.cls ≠ "java/lang/invoke/MethodHandle" ∧ yX9_rowOf.cls ≠ "java/lang/invoke/VarHandle" ∧ (parseMethodDescriptor yX9_rowOf.desc).map (fun d => d.parameters.length) = some 1 := ⟨by decide +kernel, by decide +kernel, by decide +kernel⟩
theorem wc_X9_setAbsent : Cond.code yX9_setAbsent cX9_setAbsent 5 (some .boolean) ∈ AW := AW_in 1178 (by decide +kernel) (by decide +kernel)
theorem wi_X9_setAbsent : Cond.instanceMethod yX9_setAbsent ∈ AW := AW_in 1176 (by decide +kernel) (by decide +kernel)
theorem wl_X9_setAbsent : Cond.selects RX9 yX9_setAbsent yX9_setAbsent ∈ AW := AW_in 1177 (by decide +kernel) (by decide +kernel)
theorem np_X9_setAbsent : yX9_setAbsent.cls ≠ "java/lang/invoke/MethodHandle" ∧ yX9_setAbsent.cls ≠ "java/lang/invoke/VarHandle" ∧ (parseMethodDescriptor yX9_setAbsent.desc).map (fun d => d.parameters.length) = some 3 := ⟨by decide +kernel, by decide +kernel, by decide +kernel⟩
theorem wc_X9_setDemand : Cond.code yX9_setDemand cX9_setDemand 5 (some .int) ∈ AW := AW_in 1159 (by decide +kernel) (by decide +kernel)
theorem wi_X9_setDemand : Cond.instanceMethod yX9_setDemand ∈ AW := AW_in 1157 (by decide +kernel) (by decide +kernel)
theorem wl_X9_setDemand : Cond.selects RX9 yX9_setDemand yX9_setDemand ∈ AW := AW_in 1158 (by decide +kernel) (by decide +kernel)
theorem np_X9_setDemand : yX9_setDemand.cls ≠ "java/lang/invoke/MethodHandle" ∧ yX9_setDemand.cls ≠ "java/lang/invoke/VarHandle" ∧ (parseMethodDescriptor yX9_setDemand.desc).map (fun d => d.parameters.length) = some 3 := ⟨by decide +kernel, by decide +kernel, by decide +kernel⟩
theorem wc_X9_setHours : Cond.code yX9_setHours cX9_setHours 4 (some .int) ∈ AW := AW_in 1155 (by decide +kernel) (by decide +kernel)
theorem wi_X9_setHours : Cond.instanceMethod yX9_setHours ∈ AW := AW_in 1153 (by decide +kernel) (by decide +kernel)
theorem wl_X9_setHours : Cond.selects RX9 yX9_setHours yX9_setHours ∈ AW := AW_in 1154 (by decide +kernel) (by decide +kernel)
theorem np_X9_setHours : yX9_setHours.cls ≠ "java/lang/invoke/MethodHandle" ∧ yX9_setHours.cls ≠ "java/lang/invoke/VarHandle" ∧ (parseMethodDescriptor yX9_setHours.desc).map (fun d => d.parameters.length) = some 2 := ⟨by decide +kernel, by decide +kernel, by decide +kernel⟩
theorem wc_X9_setNights : Cond.code yX9_setNights cX9_setNights 3 (some .int) ∈ AW := AW_in 1147 (by decide +kernel) (by decide +kernel)
theorem wi_X9_setNights : Cond.instanceMethod yX9_setNights ∈ AW := AW_in 1145 (by decide +kernel) (by decide +kernel)
theorem wl_X9_setNights : Cond.selects RX9 yX9_setNights yX9_setNights ∈ AW := AW_in 1146 (by decide +kernel) (by decide +kernel)
theorem np_X9_setNights : yX9_setNights.cls ≠ "java/lang/invoke/MethodHandle" ∧ yX9_setNights.cls ≠ "java/lang/invoke/VarHandle" ∧ (parseMethodDescriptor yX9_setNights.desc).map (fun d => d.parameters.length) = some 1 := ⟨by decide +kernel, by decide +kernel, by decide +kernel⟩
theorem wc_X9_setRest : Cond.code yX9_setRest cX9_setRest 3 (some .int) ∈ AW := AW_in 1143 (by decide +kernel) (by decide +kernel)
theorem wi_X9_setRest : Cond.instanceMethod yX9_setRest ∈ AW := AW_in 1141 (by decide +kernel) (by decide +kernel)
theorem wl_X9_setRest : Cond.selects RX9 yX9_setRest yX9_setRest ∈ AW := AW_in 1142 (by decide +kernel) (by decide +kernel)
theorem np_X9_setRest : yX9_setRest.cls ≠ "java/lang/invoke/MethodHandle" ∧ yX9_setRest.cls ≠ "java/lang/invoke/VarHandle" ∧ (parseMethodDescriptor yX9_setRest.desc).map (fun d => d.parameters.length) = some 1 := ⟨by decide +kernel, by decide +kernel, by decide +kernel⟩
theorem wc_X9_setRun : Cond.code yX9_setRun cX9_setRun 3 (some .int) ∈ AW := AW_in 1151 (by decide +kernel) (by decide +kernel)
theorem wi_X9_setRun : Cond.instanceMethod yX9_setRun ∈ AW := AW_in 1149 (by decide +kernel) (by decide +kernel)
theorem wl_X9_setRun : Cond.selects RX9 yX9_setRun yX9_setRun ∈ AW := AW_in 1150 (by decide +kernel) (by decide +kernel)
theorem np_X9_setRun : yX9_setRun.cls ≠ "java/lang/invoke/MethodHandle" ∧ yX9_setRun.cls ≠ "java/lang/invoke/VarHandle" ∧ (parseMethodDescriptor yX9_setRun.desc).map (fun d => d.parameters.length) = some 1 := ⟨by decide +kernel, by decide +kernel, by decide +kernel⟩
theorem wc_X9_shiftOf : Cond.code yX9_shiftOf cX9_shiftOf 3 (some .int) ∈ AW := AW_in 1182 (by decide +kernel) (by decide +kernel)
theorem wi_X9_shiftOf : Cond.instanceMethod yX9_shiftOf ∈ AW := AW_in 1180 (by decide +kernel) (by decide +kernel)
theorem wl_X9_shiftOf : Cond.selects RX9 yX9_shiftOf yX9_shiftOf ∈ AW := AW_in 1181 (by decide +kernel) (by decide +kernel)
theorem np_X9_shiftOf : yX9_shiftOf.cls ≠ "java/lang/invoke/MethodHandle" ∧ yX9_shiftOf.cls ≠ "java/lang/invoke/VarHandle" ∧ (parseMethodDescriptor yX9_shiftOf.desc).map (fun d => d.parameters.length) = some 2 := ⟨by decide +kernel, by decide +kernel, by decide +kernel⟩
theorem wc_X9_sumFrom : Cond.code yX9_sumFrom cX9_sumFrom 6 (some .int) ∈ AW := AW_in 1215 (by decide +kernel) (by decide +kernel)
theorem wi_X9_sumFrom : Cond.instanceMethod yX9_sumFrom ∈ AW := AW_in 1214 (by decide +kernel) (by decide +kernel)
theorem wl_X9_sumFrom : Cond.selects RX9 yX9_sumFrom yX9_sumFrom ∈ AW := AW_sel (y := yX9_sumFrom) (n := 25) 22 (by decide +kernel) (by decide +kernel)
theorem np_X9_sumFrom : yX9_sumFrom.cls ≠ "java/lang/invoke/MethodHandle" ∧ yX9_sumFrom.cls ≠ "java/lang/invoke/VarHandle" ∧ (parseMethodDescriptor yX9_sumFrom.desc).map (fun d => d.parameters.length) = some 3 := ⟨by decide +kernel, by decide +kernel, by decide +kernel⟩
theorem wc_X9_swap : Cond.code yX9_swap cX9_swap 5 (some .int) ∈ AW := AW_in 1283 (by decide +kernel) (by decide +kernel)
theorem wi_X9_swap : Cond.instanceMethod yX9_swap ∈ AW := AW_in 1281 (by decide +kernel) (by decide +kernel)
theorem wl_X9_swap : Cond.selects RX9 yX9_swap yX9_swap ∈ AW := AW_in 1282 (by decide +kernel) (by decide +kernel)
theorem np_X9_swap : yX9_swap.cls ≠ "java/lang/invoke/MethodHandle" ∧ yX9_swap.cls ≠ "java/lang/invoke/VarHandle" ∧ (parseMethodDescriptor yX9_swap.desc).map (fun d => d.parameters.length) = some 3 := ⟨by decide +kernel, by decide +kernel, by decide +kernel⟩
theorem wc_X9_teach : Cond.code yX9_teach cX9_teach 4 (some .boolean) ∈ AW := AW_in 1135 (by decide +kernel) (by decide +kernel)
theorem wi_X9_teach : Cond.instanceMethod yX9_teach ∈ AW := AW_in 1133 (by decide +kernel) (by decide +kernel)
theorem wl_X9_teach : Cond.selects RX9 yX9_teach yX9_teach ∈ AW := AW_in 1134 (by decide +kernel) (by decide +kernel)
theorem np_X9_teach : yX9_teach.cls ≠ "java/lang/invoke/MethodHandle" ∧ yX9_teach.cls ≠ "java/lang/invoke/VarHandle" ∧ (parseMethodDescriptor yX9_teach.desc).map (fun d => d.parameters.length) = some 2 := ⟨by decide +kernel, by decide +kernel, by decide +kernel⟩
theorem wc_X9_tells : Cond.code yX9_tells cX9_tells 5 none ∈ AW := AW_in 1247 (by decide +kernel) (by decide +kernel)
theorem wi_X9_tells : Cond.instanceMethod yX9_tells ∈ AW := AW_in 1246 (by decide +kernel) (by decide +kernel)
theorem wl_X9_tells : Cond.selects RX9 yX9_tells yX9_tells ∈ AW := AW_sel (y := yX9_tells) (n := 25) 27 (by decide +kernel) (by decide +kernel)
theorem np_X9_tells : yX9_tells.cls ≠ "java/lang/invoke/MethodHandle" ∧ yX9_tells.cls ≠ "java/lang/invoke/VarHandle" ∧ (parseMethodDescriptor yX9_tells.desc).map (fun d => d.parameters.length) = some 4 := ⟨by decide +kernel, by decide +kernel, by decide +kernel⟩
theorem wc_X9_tellsAll : Cond.code yX9_tellsAll cX9_tellsAll 4 none ∈ AW := AW_in 1228 (by decide +kernel) (by decide +kernel)
theorem wi_X9_tellsAll : Cond.instanceMethod yX9_tellsAll ∈ AW := AW_in 1227 (by decide +kernel) (by decide +kernel)
theorem wl_X9_tellsAll : Cond.selects RX9 yX9_tellsAll yX9_tellsAll ∈ AW := AW_sel (y := yX9_tellsAll) (n := 25) 23 (by decide +kernel) (by decide +kernel)
theorem np_X9_tellsAll : yX9_tellsAll.cls ≠ "java/lang/invoke/MethodHandle" ∧ yX9_tellsAll.cls ≠ "java/lang/invoke/VarHandle" ∧ (parseMethodDescriptor yX9_tellsAll.desc).map (fun d => d.parameters.length) = some 0 := ⟨by decide +kernel, by decide +kernel, by decide +kernel⟩
theorem wc_X9_tells_ : Cond.code yX9_tells_ cX9_tells_ 2 (some .boolean) ∈ AW := AW_in 1259 (by decide +kernel) (by decide +kernel)
theorem wi_X9_tells_ : Cond.instanceMethod yX9_tells_ ∈ AW := AW_in 1258 (by decide +kernel) (by decide +kernel)
theorem wl_X9_tells_ : Cond.selects RX9 yX9_tells_ yX9_tells_ ∈ AW := AW_sel (y := yX9_tells_) (n := 25) 29 (by decide +kernel) (by decide +kernel)
theorem np_X9_tells_ : yX9_tells_.cls ≠ "java/lang/invoke/MethodHandle" ∧ yX9_tells_.cls ≠ "java/lang/invoke/VarHandle" ∧ (parseMethodDescriptor yX9_tells_.desc).map (fun d => d.parameters.length) = some 1 := ⟨by decide +kernel, by decide +kernel, by decide +kernel⟩
theorem wc_X9_thrown : Cond.code yX9_thrown cX9_thrown 1 (some .int) ∈ AW := AW_in 1104 (by decide +kernel) (by decide +kernel)
theorem wi_X9_thrown : Cond.instanceMethod yX9_thrown ∈ AW := AW_in 1102 (by decide +kernel) (by decide +kernel)
theorem wl_X9_thrown : Cond.selects RX9 yX9_thrown yX9_thrown ∈ AW := AW_in 1103 (by decide +kernel) (by decide +kernel)
theorem np_X9_thrown : yX9_thrown.cls ≠ "java/lang/invoke/MethodHandle" ∧ yX9_thrown.cls ≠ "java/lang/invoke/VarHandle" ∧ (parseMethodDescriptor yX9_thrown.desc).map (fun d => d.parameters.length) = some 0 := ⟨by decide +kernel, by decide +kernel, by decide +kernel⟩
theorem wc_X9_workShare : Cond.code yX9_workShare cX9_workShare 4 (some .float) ∈ AW := AW_in 1344 (by decide +kernel) (by decide +kernel)
theorem wi_X9_workShare : Cond.instanceMethod yX9_workShare ∈ AW := AW_in 1342 (by decide +kernel) (by decide +kernel)
theorem wl_X9_workShare : Cond.selects RX9 yX9_workShare yX9_workShare ∈ AW := AW_in 1343 (by decide +kernel) (by decide +kernel)
theorem np_X9_workShare : yX9_workShare.cls ≠ "java/lang/invoke/MethodHandle" ∧ yX9_workShare.cls ≠ "java/lang/invoke/VarHandle" ∧ (parseMethodDescriptor yX9_workShare.desc).map (fun d => d.parameters.length) = some 1 := ⟨by decide +kernel, by decide +kernel, by decide +kernel⟩
theorem wz_X8 : Cond.initialized RX8 ∈ AW := AW_in 1 (by decide +kernel) (by decide +kernel)
theorem wz_X0 : Cond.initialized RX0 ∈ AW := AW_in 9 (by decide +kernel) (by decide +kernel)
theorem wz_X1 : Cond.initialized RX1 ∈ AW := AW_in 6 (by decide +kernel) (by decide +kernel)
theorem wz_X2 : Cond.initialized RX2 ∈ AW := AW_in 7 (by decide +kernel) (by decide +kernel)
theorem wz_X3 : Cond.initialized RX3 ∈ AW := AW_in 5 (by decide +kernel) (by decide +kernel)
theorem wz_X4 : Cond.initialized RX4 ∈ AW := AW_in 8 (by decide +kernel) (by decide +kernel)
theorem wz_X5 : Cond.initialized RX5 ∈ AW := AW_in 4 (by decide +kernel) (by decide +kernel)
theorem wz_X6 : Cond.initialized RX6 ∈ AW := AW_in 3 (by decide +kernel) (by decide +kernel)
theorem wz_X7 : Cond.initialized RX7 ∈ AW := AW_in 2 (by decide +kernel) (by decide +kernel)
theorem wz_L : Cond.initialized RL ∈ AW := AW_in 0 (by decide +kernel) (by decide +kernel)
theorem wz_X9 : Cond.initialized RX9 ∈ AW := AW_in 10 (by decide +kernel) (by decide +kernel)
theorem wz_Jx00060 : Cond.initialized RJx00060 ∈ AW := AW_in 18 (by decide +kernel) (by decide +kernel)
theorem wz_J6 : Cond.initialized RJ6 ∈ AW := AW_in 21 (by decide +kernel) (by decide +kernel)
theorem wz_J13 : Cond.initialized RJ13 ∈ AW := AW_in 22 (by decide +kernel) (by decide +kernel)
theorem wz_J9 : Cond.initialized RJ9 ∈ AW := AW_in 20 (by decide +kernel) (by decide +kernel)
theorem wz_J0 : Cond.initialized RJ0 ∈ AW := AW_in 19 (by decide +kernel) (by decide +kernel)
theorem wz_J1 : Cond.initialized RJ1 ∈ AW := AW_in 23 (by decide +kernel) (by decide +kernel)
theorem wz_J2 : Cond.initialized RJ2 ∈ AW := AW_in 25 (by decide +kernel) (by decide +kernel)
theorem wz_J3 : Cond.initialized RJ3 ∈ AW := AW_in 24 (by decide +kernel) (by decide +kernel)
theorem wc_max : Cond.code Lib.Math.max.name Lib.Math.max.code 2 (some .int) ∈ AW := AW_in 354 (by decide +kernel) (by decide +kernel)
theorem ws_max : Cond.static Lib.Math.max.name ∈ AW := AW_in 353 (by decide +kernel) (by decide +kernel)
theorem wz_max : Cond.initialized "java/lang/Math" ∈ AW := AW_in 20 (by decide +kernel) (by decide +kernel)
