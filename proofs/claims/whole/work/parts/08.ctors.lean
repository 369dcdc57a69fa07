theorem lm_X6_3 : Cond.methodLink RX6 3 Lib.objectInit ∈ zTbl := zmem 114 (by decide +kernel) rfl
theorem lm_X1_3 : Cond.methodLink RX1 3 Lib.objectInit ∈ zTbl := zmem 195 (by decide +kernel) rfl
theorem lm_X3_3 : Cond.methodLink RX3 3 Lib.objectInit ∈ zTbl := zmem 221 (by decide +kernel) rfl
theorem lm_X4_5 : Cond.methodLink RX4 5 Lib.objectInit ∈ zTbl := zmem 215 (by decide +kernel) rfl
theorem lc_X4_1 : Cond.classLink RX4 1 RX3 ∈ zTbl := zmem 216 (by decide +kernel) rfl
theorem li_X3 : Cond.instantiable RX3 6 ∈ zTbl := zmem 217 (by decide +kernel) rfl
theorem q2_X3_init : Cond.instanceMethod yX3_init ∈ zTbl := zmem 219 (by decide +kernel) rfl
theorem q5_X3_init : Cond.code yX3_init cX3_init 1 none ∈ zTbl := zmem 220 (by decide +kernel) rfl
theorem qd_X3_init : yX3_init.cls ≠ "java/lang/invoke/MethodHandle" ∧ yX3_init.cls ≠ "java/lang/invoke/VarHandle" ∧ (parseMethodDescriptor yX3_init.desc).map (fun d => d.parameters.length) = some 0 := by decide +kernel
theorem lf_X4_12 : Cond.fieldLink RX4 12 RX4 (TX4 0).2.1 (TX4 0).2.2.1 ∈ zTbl := zmem 242 (by decide +kernel) rfl
theorem lf_X4_18 : Cond.fieldLink RX4 18 RX4 (TX4 1).2.1 (TX4 1).2.2.1 ∈ zTbl := zmem 244 (by decide +kernel) rfl
theorem lm_X2_3 : Cond.methodLink RX2 3 Lib.objectInit ∈ zTbl := zmem 273 (by decide +kernel) rfl
theorem lm_X7_3 : Cond.methodLink RX7 3 Lib.objectInit ∈ zTbl := zmem 106 (by decide +kernel) rfl
theorem lc_X7_9 : Cond.classLink RX7 9 RX6 ∈ zTbl := zmem 109 (by decide +kernel) rfl
theorem li_X6 : Cond.instantiable RX6 18 ∈ zTbl := zmem 110 (by decide +kernel) rfl
theorem q2_X6_init : Cond.instanceMethod yX6_init ∈ zTbl := zmem 112 (by decide +kernel) rfl
theorem q5_X6_init : Cond.code yX6_init cX6_init 2 none ∈ zTbl := zmem 113 (by decide +kernel) rfl
theorem qd_X6_init : yX6_init.cls ≠ "java/lang/invoke/MethodHandle" ∧ yX6_init.cls ≠ "java/lang/invoke/VarHandle" ∧ (parseMethodDescriptor yX6_init.desc).map (fun d => d.parameters.length) = some 0 := by decide +kernel
theorem lm_X7_11 : Cond.methodLink RX7 11 yX6_init ∈ zTbl := zmem 111 (by decide +kernel) rfl
theorem lc_X7_22 : Cond.classLink RX7 22 RX1 ∈ zTbl := zmem 190 (by decide +kernel) rfl
theorem li_X1 : Cond.instantiable RX1 4 ∈ zTbl := zmem 191 (by decide +kernel) rfl
theorem q2_X1_init : Cond.instanceMethod yX1_init ∈ zTbl := zmem 193 (by decide +kernel) rfl
theorem q5_X1_init : Cond.code yX1_init cX1_init 1 none ∈ zTbl := zmem 194 (by decide +kernel) rfl
theorem qd_X1_init : yX1_init.cls ≠ "java/lang/invoke/MethodHandle" ∧ yX1_init.cls ≠ "java/lang/invoke/VarHandle" ∧ (parseMethodDescriptor yX1_init.desc).map (fun d => d.parameters.length) = some 0 := by decide +kernel
theorem lc_X7_29 : Cond.classLink RX7 29 RX4 ∈ zTbl := zmem 210 (by decide +kernel) rfl
theorem li_X4 : Cond.instantiable RX4 7 ∈ zTbl := zmem 211 (by decide +kernel) rfl
theorem q2_X4_init : Cond.instanceMethod yX4_init ∈ zTbl := zmem 213 (by decide +kernel) rfl
theorem q5_X4_init : Cond.code yX4_init cX4_init 1 none ∈ zTbl := zmem 214 (by decide +kernel) rfl
theorem qd_X4_init : yX4_init.cls ≠ "java/lang/invoke/MethodHandle" ∧ yX4_init.cls ≠ "java/lang/invoke/VarHandle" ∧ (parseMethodDescriptor yX4_init.desc).map (fun d => d.parameters.length) = some 0 := by decide +kernel
theorem lc_X7_36 : Cond.classLink RX7 36 RX2 ∈ zTbl := zmem 267 (by decide +kernel) rfl
theorem lf_X7_38 : Cond.fieldLink RX7 38 RX7 (TX7 6).2.1 (TX7 6).2.2.1 ∈ zTbl := zmem 293 (by decide +kernel) rfl
theorem lf_X7_42 : Cond.fieldLink RX7 42 RX7 (TX7 7).2.1 (TX7 7).2.2.1 ∈ zTbl := zmem 294 (by decide +kernel) rfl
theorem li_X2 : Cond.instantiable RX2 3 ∈ zTbl := zmem 269 (by decide +kernel) rfl
theorem q2_X2_init : Cond.instanceMethod yX2_init ∈ zTbl := zmem 271 (by decide +kernel) rfl
theorem q5_X2_init : Cond.code yX2_init cX2_init 1 none ∈ zTbl := zmem 272 (by decide +kernel) rfl
theorem qd_X2_init : yX2_init.cls ≠ "java/lang/invoke/MethodHandle" ∧ yX2_init.cls ≠ "java/lang/invoke/VarHandle" ∧ (parseMethodDescriptor yX2_init.desc).map (fun d => d.parameters.length) = some 0 := by decide +kernel
theorem lk_X7_55 : Cond.constant RX7 55 (-1000001) ∈ zTbl := zmem 322 (by decide +kernel) rfl
theorem lm_X7_51 : Cond.methodLink RX7 51 yX7_isWithin ∈ zTbl := zmem 319 (by decide +kernel) rfl
theorem lm_X7_47 : Cond.methodLink RX7 47 yX7_isRoom ∈ zTbl := zmem 316 (by decide +kernel) rfl
theorem lm_X7_64 : Cond.methodLink RX7 64 yX6_setDoor ∈ zTbl := zmem 331 (by decide +kernel) rfl
theorem lf_X6_49 : Cond.fieldLink RX6 49 RX6 (TX6 2).2.1 (TX6 2).2.2.1 ∈ zTbl := zmem 119 (by decide +kernel) rfl
theorem lf_X6_52 : Cond.fieldLink RX6 52 RX6 (TX6 3).2.1 (TX6 3).2.2.1 ∈ zTbl := zmem 121 (by decide +kernel) rfl
theorem lm_X7_68 : Cond.methodLink RX7 68 yX6_setRule ∈ zTbl := zmem 339 (by decide +kernel) rfl
theorem lk_X6_73 : Cond.constant RX6 73 (-1000002) ∈ zTbl := zmem 355 (by decide +kernel) rfl
theorem lm_X7_72 : Cond.methodLink RX7 72 yX7_isKind ∈ zTbl := zmem 347 (by decide +kernel) rfl
theorem lf_X7_75 : Cond.fieldLink RX7 75 RX6 (TX6 4).2.1 (TX6 4).2.2.1 ∈ zTbl := zmem 124 (by decide +kernel) rfl
theorem lm_X7_80 : Cond.methodLink RX7 80 yX6_addThing ∈ zTbl := zmem 351 (by decide +kernel) rfl
theorem lk_X7_79 : Cond.constant RX7 79 (-1000002) ∈ zTbl := zmem 350 (by decide +kernel) rfl
theorem lm_X6_74 : Cond.methodLink RX6 74 yX0_weightOf ∈ zTbl := zmem 372 (by decide +kernel) rfl
theorem lm_X7_84 : Cond.methodLink RX7 84 yX7_isThing ∈ zTbl := zmem 360 (by decide +kernel) rfl
theorem lm_X7_90 : Cond.methodLink RX7 90 yX6_weightIn ∈ zTbl := zmem 368 (by decide +kernel) rfl
theorem lm_X7_87 : Cond.methodLink RX7 87 yX6_partOf ∈ zTbl := zmem 364 (by decide +kernel) rfl
theorem lm_X7_100 : Cond.methodLink RX7 100 yX7_isPlace ∈ zTbl := zmem 390 (by decide +kernel) rfl
theorem lf_X7_103 : Cond.fieldLink RX7 103 RX6 (TX6 8).2.1 (TX6 8).2.2.1 ∈ zTbl := zmem 132 (by decide +kernel) rfl
theorem lm_X7_106 : Cond.methodLink RX7 106 yX6_addOne ∈ zTbl := zmem 393 (by decide +kernel) rfl
theorem lm_X7_112 : Cond.methodLink RX7 112 yX6_traitOf ∈ zTbl := zmem 405 (by decide +kernel) rfl
theorem lm_X6_84 : Cond.methodLink RX6 84 yX6_levelOf ∈ zTbl := zmem 438 (by decide +kernel) rfl
theorem lm_X7_125 : Cond.methodLink RX7 125 yX6_moveTo ∈ zTbl := zmem 434 (by decide +kernel) rfl
theorem lf_X7_129 : Cond.fieldLink RX7 129 RX6 (TX6 9).2.1 (TX6 9).2.2.1 ∈ zTbl := zmem 135 (by decide +kernel) rfl
theorem lk_X7_124 : Cond.constant RX7 124 (-1000005) ∈ zTbl := zmem 433 (by decide +kernel) rfl
theorem lm_X7_132 : Cond.methodLink RX7 132 yX6_placeInside ∈ zTbl := zmem 446 (by decide +kernel) rfl
theorem lm_X7_135 : Cond.methodLink RX7 135 yX7_goTo ∈ zTbl := zmem 450 (by decide +kernel) rfl
theorem lm_X7_138 : Cond.methodLink RX7 138 yX6_placeOutside ∈ zTbl := zmem 458 (by decide +kernel) rfl
theorem lm_X6_92 : Cond.methodLink RX6 92 yX6_roomOf ∈ zTbl := zmem 470 (by decide +kernel) rfl
theorem lm_X6_43 : Cond.methodLink RX6 43 arraycopyName ∈ zTbl := zmem 485 (by decide +kernel) rfl
theorem lm_X6_95 : Cond.methodLink RX6 95 yX6_moveTo ∈ zTbl := zmem 476 (by decide +kernel) rfl
theorem lm_X6_99 : Cond.methodLink RX6 99 yX6_standingIn ∈ zTbl := zmem 477 (by decide +kernel) rfl
theorem lm_X6_102 : Cond.methodLink RX6 102 yX6_enter ∈ zTbl := zmem 481 (by decide +kernel) rfl
theorem lf_X7_150 : Cond.fieldLink RX7 150 RX6 (TX6 6).2.1 (TX6 6).2.2.1 ∈ zTbl := zmem 129 (by decide +kernel) rfl
theorem lf_X7_162 : Cond.fieldLink RX7 162 RX6 (TX6 15).2.1 (TX6 15).2.2.1 ∈ zTbl := zmem 147 (by decide +kernel) rfl
theorem lf_X7_165 : Cond.fieldLink RX7 165 RX6 (TX6 1).2.1 (TX6 1).2.2.1 ∈ zTbl := zmem 118 (by decide +kernel) rfl
theorem lf_X7_181 : Cond.fieldLink RX7 181 RX6 (TX6 14).2.1 (TX6 14).2.2.1 ∈ zTbl := zmem 145 (by decide +kernel) rfl
theorem lk_X7_180 : Cond.constant RX7 180 (-1000004) ∈ zTbl := zmem 516 (by decide +kernel) rfl
theorem lj_X6_88 : Cond.constantLong RX6 88 4311810305 ∈ zTbl := zmem 529 (by decide +kernel) rfl
theorem lj_X6_90 : Cond.constantLong RX6 90 16843009 ∈ zTbl := zmem 530 (by decide +kernel) rfl
theorem lm_X7_184 : Cond.methodLink RX7 184 yX1_placesFrom ∈ zTbl := zmem 521 (by decide +kernel) rfl
theorem lm_X7_188 : Cond.methodLink RX7 188 yX1_stepsTo ∈ zTbl := zmem 536 (by decide +kernel) rfl
theorem lm_X7_192 : Cond.methodLink RX7 192 yX7_foundOrNone ∈ zTbl := zmem 540 (by decide +kernel) rfl
theorem lm_X7_195 : Cond.methodLink RX7 195 yX7_isTask ∈ zTbl := zmem 548 (by decide +kernel) rfl
theorem lm_X7_198 : Cond.methodLink RX7 198 yX1_fewestFor ∈ zTbl := zmem 552 (by decide +kernel) rfl
theorem lm_X7_202 : Cond.methodLink RX7 202 yX7_isFewer ∈ zTbl := zmem 583 (by decide +kernel) rfl
theorem lm_X7_205 : Cond.methodLink RX7 205 yX1_roomsFor ∈ zTbl := zmem 590 (by decide +kernel) rfl
theorem lm_X7_209 : Cond.methodLink RX7 209 yX6_become ∈ zTbl := zmem 602 (by decide +kernel) rfl
theorem lm_X7_213 : Cond.methodLink RX7 213 yX6_weighsSomewhere ∈ zTbl := zmem 606 (by decide +kernel) rfl
theorem lf_X7_216 : Cond.fieldLink RX7 216 RX6 (TX6 10).2.1 (TX6 10).2.2.1 ∈ zTbl := zmem 137 (by decide +kernel) rfl
theorem lf_X7_219 : Cond.fieldLink RX7 219 RX6 (TX6 5).2.1 (TX6 5).2.2.1 ∈ zTbl := zmem 126 (by decide +kernel) rfl
theorem lm_X6_106 : Cond.methodLink RX6 106 yX6_canCarry ∈ zTbl := zmem 626 (by decide +kernel) rfl
theorem lm_X6_110 : Cond.methodLink RX6 110 yX6_canReach ∈ zTbl := zmem 627 (by decide +kernel) rfl
theorem lm_X7_225 : Cond.methodLink RX7 225 yX7_isRoomAndThing ∈ zTbl := zmem 636 (by decide +kernel) rfl
theorem lm_X7_228 : Cond.methodLink RX7 228 yX7_stepsWithDoor ∈ zTbl := zmem 644 (by decide +kernel) rfl
theorem lj_X7_232 : Cond.constantLong RX7 232 4000000000000000000 ∈ zTbl := zmem 652 (by decide +kernel) rfl
theorem lk_X7_234 : Cond.constant RX7 234 (-1000007) ∈ zTbl := zmem 653 (by decide +kernel) rfl
theorem lj_X7_235 : Cond.constantLong RX7 235 2 ∈ zTbl := zmem 662 (by decide +kernel) rfl
theorem lj_X7_237 : Cond.constantLong RX7 237 1000000000000 ∈ zTbl := zmem 663 (by decide +kernel) rfl
theorem lk_X7_239 : Cond.constant RX7 239 2000000000 ∈ zTbl := zmem 668 (by decide +kernel) rfl
theorem lk_X6_127 : Cond.constant RX6 127 1103515245 ∈ zTbl := zmem 685 (by decide +kernel) rfl
theorem lm_X6_117 : Cond.methodLink RX6 117 yX6_draw ∈ zTbl := zmem 681 (by decide +kernel) rfl
theorem lm_X6_121 : Cond.methodLink RX6 121 yX6_isOpen ∈ zTbl := zmem 686 (by decide +kernel) rfl
theorem lm_X6_124 : Cond.methodLink RX6 124 yX6_reachOver ∈ zTbl := zmem 687 (by decide +kernel) rfl
theorem lm_X6_113 : Cond.methodLink RX6 113 yX6_actByDraws ∈ zTbl := zmem 677 (by decide +kernel) rfl
theorem lm_X7_240 : Cond.methodLink RX7 240 yX6_passDays ∈ zTbl := zmem 673 (by decide +kernel) rfl
theorem lf_X7_243 : Cond.fieldLink RX7 243 RX6 (TX6 16).2.1 (TX6 16).2.2.1 ∈ zTbl := zmem 149 (by decide +kernel) rfl
theorem lf_X7_246 : Cond.fieldLink RX7 246 RX4 (TX4 0).2.1 (TX4 0).2.2.1 ∈ zTbl := zmem 243 (by decide +kernel) rfl
theorem lf_X7_250 : Cond.fieldLink RX7 250 RX3 (TX3 1).2.1 (TX3 1).2.2.1 ∈ zTbl := zmem 224 (by decide +kernel) rfl
theorem lm_X7_255 : Cond.methodLink RX7 255 yX3_append ∈ zTbl := zmem 704 (by decide +kernel) rfl
theorem lf_X4_29 : Cond.fieldLink RX4 29 RX4 (TX4 2).2.1 (TX4 2).2.2.1 ∈ zTbl := zmem 246 (by decide +kernel) rfl
theorem lf_X4_35 : Cond.fieldLink RX4 35 RX4 (TX4 6).2.1 (TX4 6).2.2.1 ∈ zTbl := zmem 251 (by decide +kernel) rfl
theorem lf_X4_32 : Cond.fieldLink RX4 32 RX4 (TX4 3).2.1 (TX4 3).2.2.1 ∈ zTbl := zmem 248 (by decide +kernel) rfl
theorem lm_X4_92 : Cond.methodLink RX4 92 yX3_numberAt ∈ zTbl := zmem 847 (by decide +kernel) rfl
theorem lm_X4_75 : Cond.methodLink RX4 75 yX4_refuse ∈ zTbl := zmem 835 (by decide +kernel) rfl
theorem lm_X4_88 : Cond.methodLink RX4 88 yX4_takeNumber ∈ zTbl := zmem 843 (by decide +kernel) rfl
theorem lm_X4_84 : Cond.methodLink RX4 84 yX4_addItem ∈ zTbl := zmem 852 (by decide +kernel) rfl
theorem lm_X4_54 : Cond.methodLink RX4 54 yX3_wordAt ∈ zTbl := zmem 827 (by decide +kernel) rfl
theorem lf_X4_26 : Cond.fieldLink RX4 26 RX4 (TX4 5).2.1 (TX4 5).2.2.1 ∈ zTbl := zmem 250 (by decide +kernel) rfl
theorem lm_X4_80 : Cond.methodLink RX4 80 yX4_takePerhaps ∈ zTbl := zmem 839 (by decide +kernel) rfl
theorem lf_X4_22 : Cond.fieldLink RX4 22 RX4 (TX4 4).2.1 (TX4 4).2.2.1 ∈ zTbl := zmem 249 (by decide +kernel) rfl
theorem lm_X4_57 : Cond.methodLink RX4 57 yX4_parseOne ∈ zTbl := zmem 831 (by decide +kernel) rfl
theorem lm_X4_60 : Cond.methodLink RX4 60 yX4_parseDoor ∈ zTbl := zmem 856 (by decide +kernel) rfl
theorem lm_X4_64 : Cond.methodLink RX4 64 yX4_parseRule ∈ zTbl := zmem 860 (by decide +kernel) rfl
theorem lm_X4_72 : Cond.methodLink RX4 72 yX4_parseThing ∈ zTbl := zmem 865 (by decide +kernel) rfl
theorem lm_X4_44 : Cond.methodLink RX4 44 yX3_kindAt ∈ zTbl := zmem 869 (by decide +kernel) rfl
theorem lm_X4_38 : Cond.methodLink RX4 38 yX3_split ∈ zTbl := zmem 720 (by decide +kernel) rfl
theorem lm_X4_41 : Cond.methodLink RX4 41 yX4_parseItem ∈ zTbl := zmem 823 (by decide +kernel) rfl
theorem lm_X4_48 : Cond.methodLink RX4 48 yX4_takeSign ∈ zTbl := zmem 873 (by decide +kernel) rfl
theorem lm_X4_51 : Cond.methodLink RX4 51 yX3_beginAt ∈ zTbl := zmem 877 (by decide +kernel) rfl
theorem lf_X7_319 : Cond.fieldLink RX7 319 RX4 (TX4 1).2.1 (TX4 1).2.2.1 ∈ zTbl := zmem 245 (by decide +kernel) rfl
theorem lf_X7_261 : Cond.fieldLink RX7 261 RX4 (TX4 2).2.1 (TX4 2).2.2.1 ∈ zTbl := zmem 247 (by decide +kernel) rfl
theorem lm_X7_264 : Cond.methodLink RX7 264 yX7_makeSo ∈ zTbl := zmem 881 (by decide +kernel) rfl
theorem lf_X7_268 : Cond.fieldLink RX7 268 RX6 (TX6 17).2.1 (TX6 17).2.2.1 ∈ zTbl := zmem 151 (by decide +kernel) rfl
theorem lm_X7_272 : Cond.methodLink RX7 272 yX0_isUnder ∈ zTbl := zmem 895 (by decide +kernel) rfl
theorem lk_X7_277 : Cond.constant RX7 277 (-1000003) ∈ zTbl := zmem 901 (by decide +kernel) rfl
theorem lk_X7_271 : Cond.constant RX7 271 (-1000006) ∈ zTbl := zmem 894 (by decide +kernel) rfl
theorem lm_X7_278 : Cond.methodLink RX7 278 yX7_isSheet ∈ zTbl := zmem 906 (by decide +kernel) rfl
theorem lf_X7_284 : Cond.fieldLink RX7 284 RX2 (TX2 1).2.1 (TX2 1).2.2.1 ∈ zTbl := zmem 277 (by decide +kernel) rfl
theorem lm_X7_285 : Cond.methodLink RX7 285 yX2_isMissing ∈ zTbl := zmem 918 (by decide +kernel) rfl
theorem lm_X7_289 : Cond.methodLink RX7 289 yX2_put ∈ zTbl := zmem 922 (by decide +kernel) rfl
theorem lf_X7_292 : Cond.fieldLink RX7 292 RX2 (TX2 0).2.1 (TX2 0).2.2.1 ∈ zTbl := zmem 275 (by decide +kernel) rfl
theorem lm_X7_295 : Cond.methodLink RX7 295 yX2_hasRow ∈ zTbl := zmem 930 (by decide +kernel) rfl
theorem lf_X7_298 : Cond.fieldLink RX7 298 RX2 (TX2 2).2.1 (TX2 2).2.2.1 ∈ zTbl := zmem 279 (by decide +kernel) rfl
theorem lm_X7_301 : Cond.methodLink RX7 301 arraycopyName ∈ zTbl := zmem 934 (by decide +kernel) rfl
theorem lm_X7_307 : Cond.methodLink RX7 307 yX6_nextPlaces ∈ zTbl := zmem 943 (by decide +kernel) rfl
theorem lf_X7_311 : Cond.fieldLink RX7 311 RX7 (TX7 3).2.1 (TX7 3).2.2.1 ∈ zTbl := zmem 290 (by decide +kernel) rfl
theorem lm_X7_315 : Cond.methodLink RX7 315 yX6_fullSpots ∈ zTbl := zmem 960 (by decide +kernel) rfl
theorem lm_X8_3 : Cond.methodLink RX8 3 Lib.objectInit ∈ zTbl := zmem 973 (by decide +kernel) rfl
theorem zfs_X1 : ∀ j, j < 4 → defaultValue (tyX1 j) = vp_V [.null, .null, .null, .null] j := by decide +kernel
theorem zfs_X2 : ∀ j, j < 3 → defaultValue (tyX2 j) = vp_V [.int 0, .int 0, .null] j := by decide +kernel
theorem zfs_X3 : ∀ j, j < 6 → defaultValue (tyX3 j) = vp_V [.null, .int 0, .null, .null, .null, .int 0] j := by decide +kernel
theorem zfs_X4 : ∀ j, j < 7 → defaultValue (tyX4 j) = vp_V [.null, .null, .int 0, .int 0, .int 0, .int 0, .int 0] j := by decide +kernel
theorem zfs_X6 : ∀ j, j < 18 → defaultValue (tyX6 j) = vp_V [.null, .int 0, .int 0, .int 0, .int 0, .null, .null, .null, .int 0, .null, .null, .int 0, .int 0, .int 0, .null, .int 0, .int 0, .null] j := by decide +kernel
theorem zfs_X7 : ∀ j, j < 8 → defaultValue (tyX7 j) = vp_V [.null, .null, .null, .int 0, .null, .null, .null, .null] j := by decide +kernel
theorem zfs_X8 : ∀ j, j < 20 → defaultValue (tyX8 j) = vp_V [.null, .null, .null, .int 0, .null, .int 0, .null, .null, .null, .int 0, .int 0, .int 0, .int 0, .int 0, .int 0, .int 0, .null, .null, .null, .null] j := by decide +kernel
def zN4 (U : State) : Prop := va_Nw (.methodLinkNest RX4 11 yX3_init RX7) U
set_option maxHeartbeats 4000000 in
set_option maxRecDepth 100000 in
theorem mcX6_init {l : Launch} {D : va_G} {T : zT} (h0 : Nat) : zMc l yX6_init cX6_init 2 1 30 8 110 D T (fun _ => True) [.ref h0] [(h0, .inr (4, [.null, .int 0, .int 0, .int 0, .int 0, .null, .null, .null, .int 0, .null, .null, .int 0, .int 0, .int 0, .null, .int 0, .int 0, .null]))] (fun u => [(h0, .inr (4, [.ref (u 1), .int 3, .int 0, .int 0, .int 0, .ref (u 2), .ref (u 3), .ref (u 4), .int 0, .ref (u 5), .ref (u 6), .int 0, .int 0, .int 0, .ref (u 7), .int 0, .int 1, .ref (u 8)])), ((u 1), .inl (T.1, 8, .inl (zfl [2, 5, 10, 20, 40, 80, 160, 64]))), ((u 2), .inl (T.1, 8, .inl (fun _ => 0))), ((u 3), .inl (T.1, 8, .inl (fun _ => 0))), ((u 4), .inl (T.1, 8, .inl (fun _ => 0))), ((u 5), .inl (T.1, 4, .inl (fun _ => 0))), ((u 6), .inl (T.1, 4, .inl (fun _ => 0))), ((u 7), .inl (T.1, 60, .inl (fun _ => 0))), ((u 8), .inl (T.1, 10, .inl (zfl [-1, -1, -1, -1, -1, -1, -1, -1, -1, -1])))]) := by
  refine zMc.of (by decide +kernel) (Nat.le_of_ble_eq_true rfl) (fun p e s m args below meth c _ hB hin hN => ?_)
  refine zc_aload_n hB 0 rfl rfl dX6_init_0 ?_
  refine zc_obj hB lm_X6_3 (by decide) (by decide) dX6_init_1 ?_
  refine zc_aload_n hB 0 rfl rfl dX6_init_4 ?_
  refine zc_bipush (v := 8) hB (by decide) dX6_init_5 ?_
  refine zc_newa (N := 8) hB (by decide) (by decide) (by decide) (by decide) (by decide) dX6_init_7 (fun q1 => ?_)
  refine zc_cs (cells' := 1) (slots' := 8) rfl rfl ?_
  refine zc_ws (ws' := [(h0, .inr (4, [.null, .int 0, .int 0, .int 0, .int 0, .null, .null, .null, .int 0, .null, .null, .int 0, .int 0, .int 0, .null, .int 0, .int 0, .null])), (q1, .inl (T.1, 8, .inl (fun _ => 0)))]) rfl ?_
  refine zc_putF_X6 (q0 := 0) (k := 0) (ty := tyX6 0) hB hin rfl (by decide) rfl (tyX6_ok 0 (by decide)) rfl rfl rfl rfl rfl lf_X6_9 dX6_init_9 ?_
  refine zc_ws (ws' := [(h0, .inr (4, [.ref q1, .int 0, .int 0, .int 0, .int 0, .null, .null, .null, .int 0, .null, .null, .int 0, .int 0, .int 0, .null, .int 0, .int 0, .null])), (q1, .inl (T.1, 8, .inl (fun _ => 0)))]) rfl ?_
  refine zc_aload_n hB 0 rfl rfl dX6_init_12 ?_
  refine zc_iconst (v := 3) hB (by decide) dX6_init_13 ?_
  refine zc_putI_X6 (q0 := 0) (k := 1) hB rfl (by decide) rfl (by decide +kernel) rfl rfl lf_X6_15 dX6_init_14 ?_
  refine zc_ws (ws' := [(h0, .inr (4, [.ref q1, .int 3, .int 0, .int 0, .int 0, .null, .null, .null, .int 0, .null, .null, .int 0, .int 0, .int 0, .null, .int 0, .int 0, .null])), (q1, .inl (T.1, 8, .inl (fun _ => 0)))]) rfl ?_
  refine zc_aload_n hB 0 rfl rfl dX6_init_17 ?_
  refine zc_bipush (v := 8) hB (by decide) dX6_init_18 ?_
  refine zc_newa (N := 8) hB (by decide) (by decide) (by decide) (by decide) (by decide) dX6_init_20 (fun q2 => ?_)
  refine zc_cs (cells' := 2) (slots' := 16) rfl rfl ?_
  refine zc_ws (ws' := [(h0, .inr (4, [.ref q1, .int 3, .int 0, .int 0, .int 0, .null, .null, .null, .int 0, .null, .null, .int 0, .int 0, .int 0, .null, .int 0, .int 0, .null])), (q1, .inl (T.1, 8, .inl (fun _ => 0))), (q2, .inl (T.1, 8, .inl (fun _ => 0)))]) rfl ?_
  refine zc_putF_X6 (q0 := 0) (k := 5) (ty := tyX6 5) hB hin rfl (by decide) rfl (tyX6_ok 5 (by decide)) rfl rfl rfl rfl rfl lf_X6_19 dX6_init_22 ?_
  refine zc_ws (ws' := [(h0, .inr (4, [.ref q1, .int 3, .int 0, .int 0, .int 0, .ref q2, .null, .null, .int 0, .null, .null, .int 0, .int 0, .int 0, .null, .int 0, .int 0, .null])), (q1, .inl (T.1, 8, .inl (fun _ => 0))), (q2, .inl (T.1, 8, .inl (fun _ => 0)))]) rfl ?_
  refine zc_aload_n hB 0 rfl rfl dX6_init_25 ?_
  refine zc_bipush (v := 8) hB (by decide) dX6_init_26 ?_
  refine zc_newa (N := 8) hB (by decide) (by decide) (by decide) (by decide) (by decide) dX6_init_28 (fun q3 => ?_)
  refine zc_cs (cells' := 3) (slots' := 24) rfl rfl ?_
  refine zc_ws (ws' := [(h0, .inr (4, [.ref q1, .int 3, .int 0, .int 0, .int 0, .ref q2, .null, .null, .int 0, .null, .null, .int 0, .int 0, .int 0, .null, .int 0, .int 0, .null])), (q1, .inl (T.1, 8, .inl (fun _ => 0))), (q2, .inl (T.1, 8, .inl (fun _ => 0))), (q3, .inl (T.1, 8, .inl (fun _ => 0)))]) rfl ?_
  refine zc_putF_X6 (q0 := 0) (k := 6) (ty := tyX6 6) hB hin rfl (by decide) rfl (tyX6_ok 6 (by decide)) rfl rfl rfl rfl rfl lf_X6_22 dX6_init_30 ?_
  refine zc_ws (ws' := [(h0, .inr (4, [.ref q1, .int 3, .int 0, .int 0, .int 0, .ref q2, .ref q3, .null, .int 0, .null, .null, .int 0, .int 0, .int 0, .null, .int 0, .int 0, .null])), (q1, .inl (T.1, 8, .inl (fun _ => 0))), (q2, .inl (T.1, 8, .inl (fun _ => 0))), (q3, .inl (T.1, 8, .inl (fun _ => 0)))]) rfl ?_
  refine zc_aload_n hB 0 rfl rfl dX6_init_33 ?_
  refine zc_bipush (v := 8) hB (by decide) dX6_init_34 ?_
  refine zc_newa (N := 8) hB (by decide) (by decide) (by decide) (by decide) (by decide) dX6_init_36 (fun q4 => ?_)
  refine zc_cs (cells' := 4) (slots' := 32) rfl rfl ?_
  refine zc_ws (ws' := [(h0, .inr (4, [.ref q1, .int 3, .int 0, .int 0, .int 0, .ref q2, .ref q3, .null, .int 0, .null, .null, .int 0, .int 0, .int 0, .null, .int 0, .int 0, .null])), (q1, .inl (T.1, 8, .inl (fun _ => 0))), (q2, .inl (T.1, 8, .inl (fun _ => 0))), (q3, .inl (T.1, 8, .inl (fun _ => 0))), (q4, .inl (T.1, 8, .inl (fun _ => 0)))]) rfl ?_
  refine zc_putF_X6 (q0 := 0) (k := 7) (ty := tyX6 7) hB hin rfl (by decide) rfl (tyX6_ok 7 (by decide)) rfl rfl rfl rfl rfl lf_X6_25 dX6_init_38 ?_
  refine zc_ws (ws' := [(h0, .inr (4, [.ref q1, .int 3, .int 0, .int 0, .int 0, .ref q2, .ref q3, .ref q4, .int 0, .null, .null, .int 0, .int 0, .int 0, .null, .int 0, .int 0, .null])), (q1, .inl (T.1, 8, .inl (fun _ => 0))), (q2, .inl (T.1, 8, .inl (fun _ => 0))), (q3, .inl (T.1, 8, .inl (fun _ => 0))), (q4, .inl (T.1, 8, .inl (fun _ => 0)))]) rfl ?_
  refine zc_aload_n hB 0 rfl rfl dX6_init_41 ?_
  refine zc_iconst (v := 4) hB (by decide) dX6_init_42 ?_
  refine zc_newa (N := 4) hB (by decide) (by decide) (by decide) (by decide) (by decide) dX6_init_43 (fun q5 => ?_)
  refine zc_cs (cells' := 5) (slots' := 36) rfl rfl ?_
  refine zc_ws (ws' := [(h0, .inr (4, [.ref q1, .int 3, .int 0, .int 0, .int 0, .ref q2, .ref q3, .ref q4, .int 0, .null, .null, .int 0, .int 0, .int 0, .null, .int 0, .int 0, .null])), (q1, .inl (T.1, 8, .inl (fun _ => 0))), (q2, .inl (T.1, 8, .inl (fun _ => 0))), (q3, .inl (T.1, 8, .inl (fun _ => 0))), (q4, .inl (T.1, 8, .inl (fun _ => 0))), (q5, .inl (T.1, 4, .inl (fun _ => 0)))]) rfl ?_
  refine zc_putF_X6 (q0 := 0) (k := 9) (ty := tyX6 9) hB hin rfl (by decide) rfl (tyX6_ok 9 (by decide)) rfl rfl rfl rfl rfl lf_X6_28 dX6_init_45 ?_
  refine zc_ws (ws' := [(h0, .inr (4, [.ref q1, .int 3, .int 0, .int 0, .int 0, .ref q2, .ref q3, .ref q4, .int 0, .ref q5, .null, .int 0, .int 0, .int 0, .null, .int 0, .int 0, .null])), (q1, .inl (T.1, 8, .inl (fun _ => 0))), (q2, .inl (T.1, 8, .inl (fun _ => 0))), (q3, .inl (T.1, 8, .inl (fun _ => 0))), (q4, .inl (T.1, 8, .inl (fun _ => 0))), (q5, .inl (T.1, 4, .inl (fun _ => 0)))]) rfl ?_
  refine zc_aload_n hB 0 rfl rfl dX6_init_48 ?_
  refine zc_iconst (v := 4) hB (by decide) dX6_init_49 ?_
  refine zc_newa (N := 4) hB (by decide) (by decide) (by decide) (by decide) (by decide) dX6_init_50 (fun q6 => ?_)
  refine zc_cs (cells' := 6) (slots' := 40) rfl rfl ?_
  refine zc_ws (ws' := [(h0, .inr (4, [.ref q1, .int 3, .int 0, .int 0, .int 0, .ref q2, .ref q3, .ref q4, .int 0, .ref q5, .null, .int 0, .int 0, .int 0, .null, .int 0, .int 0, .null])), (q1, .inl (T.1, 8, .inl (fun _ => 0))), (q2, .inl (T.1, 8, .inl (fun _ => 0))), (q3, .inl (T.1, 8, .inl (fun _ => 0))), (q4, .inl (T.1, 8, .inl (fun _ => 0))), (q5, .inl (T.1, 4, .inl (fun _ => 0))), (q6, .inl (T.1, 4, .inl (fun _ => 0)))]) rfl ?_
  refine zc_putF_X6 (q0 := 0) (k := 10) (ty := tyX6 10) hB hin rfl (by decide) rfl (tyX6_ok 10 (by decide)) rfl rfl rfl rfl rfl lf_X6_31 dX6_init_52 ?_
  refine zc_ws (ws' := [(h0, .inr (4, [.ref q1, .int 3, .int 0, .int 0, .int 0, .ref q2, .ref q3, .ref q4, .int 0, .ref q5, .ref q6, .int 0, .int 0, .int 0, .null, .int 0, .int 0, .null])), (q1, .inl (T.1, 8, .inl (fun _ => 0))), (q2, .inl (T.1, 8, .inl (fun _ => 0))), (q3, .inl (T.1, 8, .inl (fun _ => 0))), (q4, .inl (T.1, 8, .inl (fun _ => 0))), (q5, .inl (T.1, 4, .inl (fun _ => 0))), (q6, .inl (T.1, 4, .inl (fun _ => 0)))]) rfl ?_
  refine zc_aload_n hB 0 rfl rfl dX6_init_55 ?_
  refine zc_bipush (v := 60) hB (by decide) dX6_init_56 ?_
  refine zc_newa (N := 60) hB (by decide) (by decide) (by decide) (by decide) (by decide) dX6_init_58 (fun q7 => ?_)
  refine zc_cs (cells' := 7) (slots' := 100) rfl rfl ?_
  refine zc_ws (ws' := [(h0, .inr (4, [.ref q1, .int 3, .int 0, .int 0, .int 0, .ref q2, .ref q3, .ref q4, .int 0, .ref q5, .ref q6, .int 0, .int 0, .int 0, .null, .int 0, .int 0, .null])), (q1, .inl (T.1, 8, .inl (fun _ => 0))), (q2, .inl (T.1, 8, .inl (fun _ => 0))), (q3, .inl (T.1, 8, .inl (fun _ => 0))), (q4, .inl (T.1, 8, .inl (fun _ => 0))), (q5, .inl (T.1, 4, .inl (fun _ => 0))), (q6, .inl (T.1, 4, .inl (fun _ => 0))), (q7, .inl (T.1, 60, .inl (fun _ => 0)))]) rfl ?_
  refine zc_putF_X6 (q0 := 0) (k := 14) (ty := tyX6 14) hB hin rfl (by decide) rfl (tyX6_ok 14 (by decide)) rfl rfl rfl rfl rfl lf_X6_34 dX6_init_60 ?_
  refine zc_ws (ws' := [(h0, .inr (4, [.ref q1, .int 3, .int 0, .int 0, .int 0, .ref q2, .ref q3, .ref q4, .int 0, .ref q5, .ref q6, .int 0, .int 0, .int 0, .ref q7, .int 0, .int 0, .null])), (q1, .inl (T.1, 8, .inl (fun _ => 0))), (q2, .inl (T.1, 8, .inl (fun _ => 0))), (q3, .inl (T.1, 8, .inl (fun _ => 0))), (q4, .inl (T.1, 8, .inl (fun _ => 0))), (q5, .inl (T.1, 4, .inl (fun _ => 0))), (q6, .inl (T.1, 4, .inl (fun _ => 0))), (q7, .inl (T.1, 60, .inl (fun _ => 0)))]) rfl ?_
  refine zc_aload_n hB 0 rfl rfl dX6_init_63 ?_
  refine zc_iconst (v := 1) hB (by decide) dX6_init_64 ?_
  refine zc_putI_X6 (q0 := 0) (k := 16) hB rfl (by decide) rfl (by decide +kernel) rfl rfl lf_X6_37 dX6_init_65 ?_
  refine zc_ws (ws' := [(h0, .inr (4, [.ref q1, .int 3, .int 0, .int 0, .int 0, .ref q2, .ref q3, .ref q4, .int 0, .ref q5, .ref q6, .int 0, .int 0, .int 0, .ref q7, .int 0, .int 1, .null])), (q1, .inl (T.1, 8, .inl (fun _ => 0))), (q2, .inl (T.1, 8, .inl (fun _ => 0))), (q3, .inl (T.1, 8, .inl (fun _ => 0))), (q4, .inl (T.1, 8, .inl (fun _ => 0))), (q5, .inl (T.1, 4, .inl (fun _ => 0))), (q6, .inl (T.1, 4, .inl (fun _ => 0))), (q7, .inl (T.1, 60, .inl (fun _ => 0)))]) rfl ?_
  refine zc_aload_n hB 0 rfl rfl dX6_init_68 ?_
  refine zc_bipush (v := 10) hB (by decide) dX6_init_69 ?_
  refine zc_newa (N := 10) hB (by decide) (by decide) (by decide) (by decide) (by decide) dX6_init_71 (fun q8 => ?_)
  refine zc_cs (cells' := 8) (slots' := 110) rfl rfl ?_
  refine zc_ws (ws' := [(h0, .inr (4, [.ref q1, .int 3, .int 0, .int 0, .int 0, .ref q2, .ref q3, .ref q4, .int 0, .ref q5, .ref q6, .int 0, .int 0, .int 0, .ref q7, .int 0, .int 1, .null])), (q1, .inl (T.1, 8, .inl (fun _ => 0))), (q2, .inl (T.1, 8, .inl (fun _ => 0))), (q3, .inl (T.1, 8, .inl (fun _ => 0))), (q4, .inl (T.1, 8, .inl (fun _ => 0))), (q5, .inl (T.1, 4, .inl (fun _ => 0))), (q6, .inl (T.1, 4, .inl (fun _ => 0))), (q7, .inl (T.1, 60, .inl (fun _ => 0))), (q8, .inl (T.1, 10, .inl (fun _ => 0)))]) rfl ?_
  refine zc_putF_X6 (q0 := 0) (k := 17) (ty := tyX6 17) hB hin rfl (by decide) rfl (tyX6_ok 17 (by decide)) rfl rfl rfl rfl rfl lf_X6_40 dX6_init_73 ?_
  refine zc_ws (ws' := [(h0, .inr (4, [.ref q1, .int 3, .int 0, .int 0, .int 0, .ref q2, .ref q3, .ref q4, .int 0, .ref q5, .ref q6, .int 0, .int 0, .int 0, .ref q7, .int 0, .int 1, .ref q8])), (q1, .inl (T.1, 8, .inl (fun _ => 0))), (q2, .inl (T.1, 8, .inl (fun _ => 0))), (q3, .inl (T.1, 8, .inl (fun _ => 0))), (q4, .inl (T.1, 8, .inl (fun _ => 0))), (q5, .inl (T.1, 4, .inl (fun _ => 0))), (q6, .inl (T.1, 4, .inl (fun _ => 0))), (q7, .inl (T.1, 60, .inl (fun _ => 0))), (q8, .inl (T.1, 10, .inl (fun _ => 0)))]) rfl ?_
  refine zc_iconst (v := 0) hB (by decide) dX6_init_76 ?_
  refine zc_istore_n (lv' := [(1, .int 0), (0, .ref h0)]) hB rfl (by decide) rfl dX6_init_77 ?_
  refine zc_iload_n hB 0 rfl rfl dX6_init_78 ?_
  refine zc_bipush (v := 7) hB (by decide) dX6_init_79 ?_
  refine zc_geF (tgt := 118) hB (by decide) (by decide) dX6_init_81 ?_
  refine zc_aload_n hB 1 rfl rfl dX6_init_84 ?_
  refine zc_get_X6 (q0 := 0) (k := 0) (v := .ref q1) hB rfl (by decide) rfl rfl lf_X6_9 dX6_init_85 ?_
  refine zc_iload_n hB 0 rfl rfl dX6_init_88 ?_
  refine zc_dup2 hB rfl rfl dX6_init_89 ?_
  refine zc_iald (q0 := 1) (v := 0) hB rfl (by unfold vp_in; decide) (by decide) dX6_init_90 ?_
  refine zc_iconst (v := 1) hB (by decide) dX6_init_91 ?_
  refine zc_iload_n hB 0 rfl rfl dX6_init_92 ?_
  refine zc_iconst (v := 1) hB (by decide) dX6_init_93 ?_
  refine zc_iadd (v := 1) hB (by decide) dX6_init_94 ?_
  refine zc_ishl (v := 2) hB (by decide) dX6_init_95 ?_
  refine zc_ior (v := 2) hB (by decide) dX6_init_96 ?_
  refine zc_ws (ws' := [(h0, .inr (4, [.ref q1, .int 3, .int 0, .int 0, .int 0, .ref q2, .ref q3, .ref q4, .int 0, .ref q5, .ref q6, .int 0, .int 0, .int 0, .ref q7, .int 0, .int 1, .ref q8])), (q1, .inl (T.1, 8, .inl (zfl [0, 0, 0, 0, 0, 0, 0, 0]))), (q2, .inl (T.1, 8, .inl (fun _ => 0))), (q3, .inl (T.1, 8, .inl (fun _ => 0))), (q4, .inl (T.1, 8, .inl (fun _ => 0))), (q5, .inl (T.1, 4, .inl (fun _ => 0))), (q6, .inl (T.1, 4, .inl (fun _ => 0))), (q7, .inl (T.1, 60, .inl (fun _ => 0))), (q8, .inl (T.1, 10, .inl (fun _ => 0)))]) (by rw [show zfl [0, 0, 0, 0, 0, 0, 0, 0] = (fun _ => 0) from (zfl_0 8).symm]) ?_
  refine zc_iast (q0 := 1) (l0 := [0, 0, 0, 0, 0, 0, 0, 0]) (l1 := [2, 0, 0, 0, 0, 0, 0, 0]) hB rfl (by unfold vp_in; decide) (by decide) (by decide) dX6_init_97 ?_
  refine zc_ws (ws' := [(h0, .inr (4, [.ref q1, .int 3, .int 0, .int 0, .int 0, .ref q2, .ref q3, .ref q4, .int 0, .ref q5, .ref q6, .int 0, .int 0, .int 0, .ref q7, .int 0, .int 1, .ref q8])), (q1, .inl (T.1, 8, .inl (zfl [2, 0, 0, 0, 0, 0, 0, 0]))), (q2, .inl (T.1, 8, .inl (fun _ => 0))), (q3, .inl (T.1, 8, .inl (fun _ => 0))), (q4, .inl (T.1, 8, .inl (fun _ => 0))), (q5, .inl (T.1, 4, .inl (fun _ => 0))), (q6, .inl (T.1, 4, .inl (fun _ => 0))), (q7, .inl (T.1, 60, .inl (fun _ => 0))), (q8, .inl (T.1, 10, .inl (fun _ => 0)))]) rfl ?_
  refine zc_aload_n hB 1 rfl rfl dX6_init_98 ?_
  refine zc_get_X6 (q0 := 0) (k := 0) (v := .ref q1) hB rfl (by decide) rfl rfl lf_X6_9 dX6_init_99 ?_
  refine zc_iload_n hB 0 rfl rfl dX6_init_102 ?_
  refine zc_iconst (v := 1) hB (by decide) dX6_init_103 ?_
  refine zc_iadd (v := 1) hB (by decide) dX6_init_104 ?_
  refine zc_dup2 hB rfl rfl dX6_init_105 ?_
  refine zc_iald (q0 := 1) (v := 0) hB rfl (by unfold vp_in; decide) (by decide) dX6_init_106 ?_
  refine zc_iconst (v := 1) hB (by decide) dX6_init_107 ?_
  refine zc_iload_n hB 0 rfl rfl dX6_init_108 ?_
  refine zc_ishl (v := 1) hB (by decide) dX6_init_109 ?_
  refine zc_ior (v := 1) hB (by decide) dX6_init_110 ?_
  refine zc_iast (q0 := 1) (l0 := [2, 0, 0, 0, 0, 0, 0, 0]) (l1 := [2, 1, 0, 0, 0, 0, 0, 0]) hB rfl (by unfold vp_in; decide) (by decide) (by decide) dX6_init_111 ?_
  refine zc_ws (ws' := [(h0, .inr (4, [.ref q1, .int 3, .int 0, .int 0, .int 0, .ref q2, .ref q3, .ref q4, .int 0, .ref q5, .ref q6, .int 0, .int 0, .int 0, .ref q7, .int 0, .int 1, .ref q8])), (q1, .inl (T.1, 8, .inl (zfl [2, 1, 0, 0, 0, 0, 0, 0]))), (q2, .inl (T.1, 8, .inl (fun _ => 0))), (q3, .inl (T.1, 8, .inl (fun _ => 0))), (q4, .inl (T.1, 8, .inl (fun _ => 0))), (q5, .inl (T.1, 4, .inl (fun _ => 0))), (q6, .inl (T.1, 4, .inl (fun _ => 0))), (q7, .inl (T.1, 60, .inl (fun _ => 0))), (q8, .inl (T.1, 10, .inl (fun _ => 0)))]) rfl ?_
  refine zc_iinc (lv' := [(1, .int 1), (0, .ref h0)]) (v := 1) hB (j := 0) rfl (by decide) (by decide) rfl dX6_init_112 ?_
  refine zc_goto (tgt := 78) hB (by decide) dX6_init_115 ?_
  refine zc_iload_n hB 0 rfl rfl dX6_init_78 ?_
  refine zc_bipush (v := 7) hB (by decide) dX6_init_79 ?_
  refine zc_geF (tgt := 118) hB (by decide) (by decide) dX6_init_81 ?_
  refine zc_aload_n hB 1 rfl rfl dX6_init_84 ?_
  refine zc_get_X6 (q0 := 0) (k := 0) (v := .ref q1) hB rfl (by decide) rfl rfl lf_X6_9 dX6_init_85 ?_
  refine zc_iload_n hB 0 rfl rfl dX6_init_88 ?_
  refine zc_dup2 hB rfl rfl dX6_init_89 ?_
  refine zc_iald (q0 := 1) (v := 1) hB rfl (by unfold vp_in; decide) (by decide) dX6_init_90 ?_
  refine zc_iconst (v := 1) hB (by decide) dX6_init_91 ?_
  refine zc_iload_n hB 0 rfl rfl dX6_init_92 ?_
  refine zc_iconst (v := 1) hB (by decide) dX6_init_93 ?_
  refine zc_iadd (v := 2) hB (by decide) dX6_init_94 ?_
  refine zc_ishl (v := 4) hB (by decide) dX6_init_95 ?_
  refine zc_ior (v := 5) hB (by decide) dX6_init_96 ?_
  refine zc_iast (q0 := 1) (l0 := [2, 1, 0, 0, 0, 0, 0, 0]) (l1 := [2, 5, 0, 0, 0, 0, 0, 0]) hB rfl (by unfold vp_in; decide) (by decide) (by decide) dX6_init_97 ?_
  refine zc_ws (ws' := [(h0, .inr (4, [.ref q1, .int 3, .int 0, .int 0, .int 0, .ref q2, .ref q3, .ref q4, .int 0, .ref q5, .ref q6, .int 0, .int 0, .int 0, .ref q7, .int 0, .int 1, .ref q8])), (q1, .inl (T.1, 8, .inl (zfl [2, 5, 0, 0, 0, 0, 0, 0]))), (q2, .inl (T.1, 8, .inl (fun _ => 0))), (q3, .inl (T.1, 8, .inl (fun _ => 0))), (q4, .inl (T.1, 8, .inl (fun _ => 0))), (q5, .inl (T.1, 4, .inl (fun _ => 0))), (q6, .inl (T.1, 4, .inl (fun _ => 0))), (q7, .inl (T.1, 60, .inl (fun _ => 0))), (q8, .inl (T.1, 10, .inl (fun _ => 0)))]) rfl ?_
  refine zc_aload_n hB 1 rfl rfl dX6_init_98 ?_
  refine zc_get_X6 (q0 := 0) (k := 0) (v := .ref q1) hB rfl (by decide) rfl rfl lf_X6_9 dX6_init_99 ?_
  refine zc_iload_n hB 0 rfl rfl dX6_init_102 ?_
  refine zc_iconst (v := 1) hB (by decide) dX6_init_103 ?_
  refine zc_iadd (v := 2) hB (by decide) dX6_init_104 ?_
  refine zc_dup2 hB rfl rfl dX6_init_105 ?_
  refine zc_iald (q0 := 1) (v := 0) hB rfl (by unfold vp_in; decide) (by decide) dX6_init_106 ?_
  refine zc_iconst (v := 1) hB (by decide) dX6_init_107 ?_
  refine zc_iload_n hB 0 rfl rfl dX6_init_108 ?_
  refine zc_ishl (v := 2) hB (by decide) dX6_init_109 ?_
  refine zc_ior (v := 2) hB (by decide) dX6_init_110 ?_
  refine zc_iast (q0 := 1) (l0 := [2, 5, 0, 0, 0, 0, 0, 0]) (l1 := [2, 5, 2, 0, 0, 0, 0, 0]) hB rfl (by unfold vp_in; decide) (by decide) (by decide) dX6_init_111 ?_
  refine zc_ws (ws' := [(h0, .inr (4, [.ref q1, .int 3, .int 0, .int 0, .int 0, .ref q2, .ref q3, .ref q4, .int 0, .ref q5, .ref q6, .int 0, .int 0, .int 0, .ref q7, .int 0, .int 1, .ref q8])), (q1, .inl (T.1, 8, .inl (zfl [2, 5, 2, 0, 0, 0, 0, 0]))), (q2, .inl (T.1, 8, .inl (fun _ => 0))), (q3, .inl (T.1, 8, .inl (fun _ => 0))), (q4, .inl (T.1, 8, .inl (fun _ => 0))), (q5, .inl (T.1, 4, .inl (fun _ => 0))), (q6, .inl (T.1, 4, .inl (fun _ => 0))), (q7, .inl (T.1, 60, .inl (fun _ => 0))), (q8, .inl (T.1, 10, .inl (fun _ => 0)))]) rfl ?_
  refine zc_iinc (lv' := [(1, .int 2), (0, .ref h0)]) (v := 2) hB (j := 0) rfl (by decide) (by decide) rfl dX6_init_112 ?_
  refine zc_goto (tgt := 78) hB (by decide) dX6_init_115 ?_
  refine zc_iload_n hB 0 rfl rfl dX6_init_78 ?_
  refine zc_bipush (v := 7) hB (by decide) dX6_init_79 ?_
  refine zc_geF (tgt := 118) hB (by decide) (by decide) dX6_init_81 ?_
  refine zc_aload_n hB 1 rfl rfl dX6_init_84 ?_
  refine zc_get_X6 (q0 := 0) (k := 0) (v := .ref q1) hB rfl (by decide) rfl rfl lf_X6_9 dX6_init_85 ?_
  refine zc_iload_n hB 0 rfl rfl dX6_init_88 ?_
  refine zc_dup2 hB rfl rfl dX6_init_89 ?_
  refine zc_iald (q0 := 1) (v := 2) hB rfl (by unfold vp_in; decide) (by decide) dX6_init_90 ?_
  refine zc_iconst (v := 1) hB (by decide) dX6_init_91 ?_
  refine zc_iload_n hB 0 rfl rfl dX6_init_92 ?_
  refine zc_iconst (v := 1) hB (by decide) dX6_init_93 ?_
  refine zc_iadd (v := 3) hB (by decide) dX6_init_94 ?_
  refine zc_ishl (v := 8) hB (by decide) dX6_init_95 ?_
  refine zc_ior (v := 10) hB (by decide) dX6_init_96 ?_
  refine zc_iast (q0 := 1) (l0 := [2, 5, 2, 0, 0, 0, 0, 0]) (l1 := [2, 5, 10, 0, 0, 0, 0, 0]) hB rfl (by unfold vp_in; decide) (by decide) (by decide) dX6_init_97 ?_
  refine zc_ws (ws' := [(h0, .inr (4, [.ref q1, .int 3, .int 0, .int 0, .int 0, .ref q2, .ref q3, .ref q4, .int 0, .ref q5, .ref q6, .int 0, .int 0, .int 0, .ref q7, .int 0, .int 1, .ref q8])), (q1, .inl (T.1, 8, .inl (zfl [2, 5, 10, 0, 0, 0, 0, 0]))), (q2, .inl (T.1, 8, .inl (fun _ => 0))), (q3, .inl (T.1, 8, .inl (fun _ => 0))), (q4, .inl (T.1, 8, .inl (fun _ => 0))), (q5, .inl (T.1, 4, .inl (fun _ => 0))), (q6, .inl (T.1, 4, .inl (fun _ => 0))), (q7, .inl (T.1, 60, .inl (fun _ => 0))), (q8, .inl (T.1, 10, .inl (fun _ => 0)))]) rfl ?_
  refine zc_aload_n hB 1 rfl rfl dX6_init_98 ?_
  refine zc_get_X6 (q0 := 0) (k := 0) (v := .ref q1) hB rfl (by decide) rfl rfl lf_X6_9 dX6_init_99 ?_
  refine zc_iload_n hB 0 rfl rfl dX6_init_102 ?_
  refine zc_iconst (v := 1) hB (by decide) dX6_init_103 ?_
  refine zc_iadd (v := 3) hB (by decide) dX6_init_104 ?_
  refine zc_dup2 hB rfl rfl dX6_init_105 ?_
  refine zc_iald (q0 := 1) (v := 0) hB rfl (by unfold vp_in; decide) (by decide) dX6_init_106 ?_
  refine zc_iconst (v := 1) hB (by decide) dX6_init_107 ?_
  refine zc_iload_n hB 0 rfl rfl dX6_init_108 ?_
  refine zc_ishl (v := 4) hB (by decide) dX6_init_109 ?_
  refine zc_ior (v := 4) hB (by decide) dX6_init_110 ?_
  refine zc_iast (q0 := 1) (l0 := [2, 5, 10, 0, 0, 0, 0, 0]) (l1 := [2, 5, 10, 4, 0, 0, 0, 0]) hB rfl (by unfold vp_in; decide) (by decide) (by decide) dX6_init_111 ?_
  refine zc_ws (ws' := [(h0, .inr (4, [.ref q1, .int 3, .int 0, .int 0, .int 0, .ref q2, .ref q3, .ref q4, .int 0, .ref q5, .ref q6, .int 0, .int 0, .int 0, .ref q7, .int 0, .int 1, .ref q8])), (q1, .inl (T.1, 8, .inl (zfl [2, 5, 10, 4, 0, 0, 0, 0]))), (q2, .inl (T.1, 8, .inl (fun _ => 0))), (q3, .inl (T.1, 8, .inl (fun _ => 0))), (q4, .inl (T.1, 8, .inl (fun _ => 0))), (q5, .inl (T.1, 4, .inl (fun _ => 0))), (q6, .inl (T.1, 4, .inl (fun _ => 0))), (q7, .inl (T.1, 60, .inl (fun _ => 0))), (q8, .inl (T.1, 10, .inl (fun _ => 0)))]) rfl ?_
  refine zc_iinc (lv' := [(1, .int 3), (0, .ref h0)]) (v := 3) hB (j := 0) rfl (by decide) (by decide) rfl dX6_init_112 ?_
  refine zc_goto (tgt := 78) hB (by decide) dX6_init_115 ?_
  refine zc_iload_n hB 0 rfl rfl dX6_init_78 ?_
  refine zc_bipush (v := 7) hB (by decide) dX6_init_79 ?_
  refine zc_geF (tgt := 118) hB (by decide) (by decide) dX6_init_81 ?_
  refine zc_aload_n hB 1 rfl rfl dX6_init_84 ?_
  refine zc_get_X6 (q0 := 0) (k := 0) (v := .ref q1) hB rfl (by decide) rfl rfl lf_X6_9 dX6_init_85 ?_
  refine zc_iload_n hB 0 rfl rfl dX6_init_88 ?_
  refine zc_dup2 hB rfl rfl dX6_init_89 ?_
  refine zc_iald (q0 := 1) (v := 4) hB rfl (by unfold vp_in; decide) (by decide) dX6_init_90 ?_
  refine zc_iconst (v := 1) hB (by decide) dX6_init_91 ?_
  refine zc_iload_n hB 0 rfl rfl dX6_init_92 ?_
  refine zc_iconst (v := 1) hB (by decide) dX6_init_93 ?_
  refine zc_iadd (v := 4) hB (by decide) dX6_init_94 ?_
  refine zc_ishl (v := 16) hB (by decide) dX6_init_95 ?_
  refine zc_ior (v := 20) hB (by decide) dX6_init_96 ?_
  refine zc_iast (q0 := 1) (l0 := [2, 5, 10, 4, 0, 0, 0, 0]) (l1 := [2, 5, 10, 20, 0, 0, 0, 0]) hB rfl (by unfold vp_in; decide) (by decide) (by decide) dX6_init_97 ?_
  refine zc_ws (ws' := [(h0, .inr (4, [.ref q1, .int 3, .int 0, .int 0, .int 0, .ref q2, .ref q3, .ref q4, .int 0, .ref q5, .ref q6, .int 0, .int 0, .int 0, .ref q7, .int 0, .int 1, .ref q8])), (q1, .inl (T.1, 8, .inl (zfl [2, 5, 10, 20, 0, 0, 0, 0]))), (q2, .inl (T.1, 8, .inl (fun _ => 0))), (q3, .inl (T.1, 8, .inl (fun _ => 0))), (q4, .inl (T.1, 8, .inl (fun _ => 0))), (q5, .inl (T.1, 4, .inl (fun _ => 0))), (q6, .inl (T.1, 4, .inl (fun _ => 0))), (q7, .inl (T.1, 60, .inl (fun _ => 0))), (q8, .inl (T.1, 10, .inl (fun _ => 0)))]) rfl ?_
  refine zc_aload_n hB 1 rfl rfl dX6_init_98 ?_
  refine zc_get_X6 (q0 := 0) (k := 0) (v := .ref q1) hB rfl (by decide) rfl rfl lf_X6_9 dX6_init_99 ?_
  refine zc_iload_n hB 0 rfl rfl dX6_init_102 ?_
  refine zc_iconst (v := 1) hB (by decide) dX6_init_103 ?_
  refine zc_iadd (v := 4) hB (by decide) dX6_init_104 ?_
  refine zc_dup2 hB rfl rfl dX6_init_105 ?_
  refine zc_iald (q0 := 1) (v := 0) hB rfl (by unfold vp_in; decide) (by decide) dX6_init_106 ?_
  refine zc_iconst (v := 1) hB (by decide) dX6_init_107 ?_
  refine zc_iload_n hB 0 rfl rfl dX6_init_108 ?_
  refine zc_ishl (v := 8) hB (by decide) dX6_init_109 ?_
  refine zc_ior (v := 8) hB (by decide) dX6_init_110 ?_
  refine zc_iast (q0 := 1) (l0 := [2, 5, 10, 20, 0, 0, 0, 0]) (l1 := [2, 5, 10, 20, 8, 0, 0, 0]) hB rfl (by unfold vp_in; decide) (by decide) (by decide) dX6_init_111 ?_
  refine zc_ws (ws' := [(h0, .inr (4, [.ref q1, .int 3, .int 0, .int 0, .int 0, .ref q2, .ref q3, .ref q4, .int 0, .ref q5, .ref q6, .int 0, .int 0, .int 0, .ref q7, .int 0, .int 1, .ref q8])), (q1, .inl (T.1, 8, .inl (zfl [2, 5, 10, 20, 8, 0, 0, 0]))), (q2, .inl (T.1, 8, .inl (fun _ => 0))), (q3, .inl (T.1, 8, .inl (fun _ => 0))), (q4, .inl (T.1, 8, .inl (fun _ => 0))), (q5, .inl (T.1, 4, .inl (fun _ => 0))), (q6, .inl (T.1, 4, .inl (fun _ => 0))), (q7, .inl (T.1, 60, .inl (fun _ => 0))), (q8, .inl (T.1, 10, .inl (fun _ => 0)))]) rfl ?_
  refine zc_iinc (lv' := [(1, .int 4), (0, .ref h0)]) (v := 4) hB (j := 0) rfl (by decide) (by decide) rfl dX6_init_112 ?_
  refine zc_goto (tgt := 78) hB (by decide) dX6_init_115 ?_
  refine zc_iload_n hB 0 rfl rfl dX6_init_78 ?_
  refine zc_bipush (v := 7) hB (by decide) dX6_init_79 ?_
  refine zc_geF (tgt := 118) hB (by decide) (by decide) dX6_init_81 ?_
  refine zc_aload_n hB 1 rfl rfl dX6_init_84 ?_
  refine zc_get_X6 (q0 := 0) (k := 0) (v := .ref q1) hB rfl (by decide) rfl rfl lf_X6_9 dX6_init_85 ?_
  refine zc_iload_n hB 0 rfl rfl dX6_init_88 ?_
  refine zc_dup2 hB rfl rfl dX6_init_89 ?_
  refine zc_iald (q0 := 1) (v := 8) hB rfl (by unfold vp_in; decide) (by decide) dX6_init_90 ?_
  refine zc_iconst (v := 1) hB (by decide) dX6_init_91 ?_
  refine zc_iload_n hB 0 rfl rfl dX6_init_92 ?_
  refine zc_iconst (v := 1) hB (by decide) dX6_init_93 ?_
  refine zc_iadd (v := 5) hB (by decide) dX6_init_94 ?_
  refine zc_ishl (v := 32) hB (by decide) dX6_init_95 ?_
  refine zc_ior (v := 40) hB (by decide) dX6_init_96 ?_
  refine zc_iast (q0 := 1) (l0 := [2, 5, 10, 20, 8, 0, 0, 0]) (l1 := [2, 5, 10, 20, 40, 0, 0, 0]) hB rfl (by unfold vp_in; decide) (by decide) (by decide) dX6_init_97 ?_
  refine zc_ws (ws' := [(h0, .inr (4, [.ref q1, .int 3, .int 0, .int 0, .int 0, .ref q2, .ref q3, .ref q4, .int 0, .ref q5, .ref q6, .int 0, .int 0, .int 0, .ref q7, .int 0, .int 1, .ref q8])), (q1, .inl (T.1, 8, .inl (zfl [2, 5, 10, 20, 40, 0, 0, 0]))), (q2, .inl (T.1, 8, .inl (fun _ => 0))), (q3, .inl (T.1, 8, .inl (fun _ => 0))), (q4, .inl (T.1, 8, .inl (fun _ => 0))), (q5, .inl (T.1, 4, .inl (fun _ => 0))), (q6, .inl (T.1, 4, .inl (fun _ => 0))), (q7, .inl (T.1, 60, .inl (fun _ => 0))), (q8, .inl (T.1, 10, .inl (fun _ => 0)))]) rfl ?_
  refine zc_aload_n hB 1 rfl rfl dX6_init_98 ?_
  refine zc_get_X6 (q0 := 0) (k := 0) (v := .ref q1) hB rfl (by decide) rfl rfl lf_X6_9 dX6_init_99 ?_
  refine zc_iload_n hB 0 rfl rfl dX6_init_102 ?_
  refine zc_iconst (v := 1) hB (by decide) dX6_init_103 ?_
  refine zc_iadd (v := 5) hB (by decide) dX6_init_104 ?_
  refine zc_dup2 hB rfl rfl dX6_init_105 ?_
  refine zc_iald (q0 := 1) (v := 0) hB rfl (by unfold vp_in; decide) (by decide) dX6_init_106 ?_
  refine zc_iconst (v := 1) hB (by decide) dX6_init_107 ?_
  refine zc_iload_n hB 0 rfl rfl dX6_init_108 ?_
  refine zc_ishl (v := 16) hB (by decide) dX6_init_109 ?_
  refine zc_ior (v := 16) hB (by decide) dX6_init_110 ?_
  refine zc_iast (q0 := 1) (l0 := [2, 5, 10, 20, 40, 0, 0, 0]) (l1 := [2, 5, 10, 20, 40, 16, 0, 0]) hB rfl (by unfold vp_in; decide) (by decide) (by decide) dX6_init_111 ?_
  refine zc_ws (ws' := [(h0, .inr (4, [.ref q1, .int 3, .int 0, .int 0, .int 0, .ref q2, .ref q3, .ref q4, .int 0, .ref q5, .ref q6, .int 0, .int 0, .int 0, .ref q7, .int 0, .int 1, .ref q8])), (q1, .inl (T.1, 8, .inl (zfl [2, 5, 10, 20, 40, 16, 0, 0]))), (q2, .inl (T.1, 8, .inl (fun _ => 0))), (q3, .inl (T.1, 8, .inl (fun _ => 0))), (q4, .inl (T.1, 8, .inl (fun _ => 0))), (q5, .inl (T.1, 4, .inl (fun _ => 0))), (q6, .inl (T.1, 4, .inl (fun _ => 0))), (q7, .inl (T.1, 60, .inl (fun _ => 0))), (q8, .inl (T.1, 10, .inl (fun _ => 0)))]) rfl ?_
  refine zc_iinc (lv' := [(1, .int 5), (0, .ref h0)]) (v := 5) hB (j := 0) rfl (by decide) (by decide) rfl dX6_init_112 ?_
  refine zc_goto (tgt := 78) hB (by decide) dX6_init_115 ?_
  refine zc_iload_n hB 0 rfl rfl dX6_init_78 ?_
  refine zc_bipush (v := 7) hB (by decide) dX6_init_79 ?_
  refine zc_geF (tgt := 118) hB (by decide) (by decide) dX6_init_81 ?_
  refine zc_aload_n hB 1 rfl rfl dX6_init_84 ?_
  refine zc_get_X6 (q0 := 0) (k := 0) (v := .ref q1) hB rfl (by decide) rfl rfl lf_X6_9 dX6_init_85 ?_
  refine zc_iload_n hB 0 rfl rfl dX6_init_88 ?_
  refine zc_dup2 hB rfl rfl dX6_init_89 ?_
  refine zc_iald (q0 := 1) (v := 16) hB rfl (by unfold vp_in; decide) (by decide) dX6_init_90 ?_
  refine zc_iconst (v := 1) hB (by decide) dX6_init_91 ?_
  refine zc_iload_n hB 0 rfl rfl dX6_init_92 ?_
  refine zc_iconst (v := 1) hB (by decide) dX6_init_93 ?_
  refine zc_iadd (v := 6) hB (by decide) dX6_init_94 ?_
  refine zc_ishl (v := 64) hB (by decide) dX6_init_95 ?_
  refine zc_ior (v := 80) hB (by decide) dX6_init_96 ?_
  refine zc_iast (q0 := 1) (l0 := [2, 5, 10, 20, 40, 16, 0, 0]) (l1 := [2, 5, 10, 20, 40, 80, 0, 0]) hB rfl (by unfold vp_in; decide) (by decide) (by decide) dX6_init_97 ?_
  refine zc_ws (ws' := [(h0, .inr (4, [.ref q1, .int 3, .int 0, .int 0, .int 0, .ref q2, .ref q3, .ref q4, .int 0, .ref q5, .ref q6, .int 0, .int 0, .int 0, .ref q7, .int 0, .int 1, .ref q8])), (q1, .inl (T.1, 8, .inl (zfl [2, 5, 10, 20, 40, 80, 0, 0]))), (q2, .inl (T.1, 8, .inl (fun _ => 0))), (q3, .inl (T.1, 8, .inl (fun _ => 0))), (q4, .inl (T.1, 8, .inl (fun _ => 0))), (q5, .inl (T.1, 4, .inl (fun _ => 0))), (q6, .inl (T.1, 4, .inl (fun _ => 0))), (q7, .inl (T.1, 60, .inl (fun _ => 0))), (q8, .inl (T.1, 10, .inl (fun _ => 0)))]) rfl ?_
  refine zc_aload_n hB 1 rfl rfl dX6_init_98 ?_
  refine zc_get_X6 (q0 := 0) (k := 0) (v := .ref q1) hB rfl (by decide) rfl rfl lf_X6_9 dX6_init_99 ?_
  refine zc_iload_n hB 0 rfl rfl dX6_init_102 ?_
  refine zc_iconst (v := 1) hB (by decide) dX6_init_103 ?_
  refine zc_iadd (v := 6) hB (by decide) dX6_init_104 ?_
  refine zc_dup2 hB rfl rfl dX6_init_105 ?_
  refine zc_iald (q0 := 1) (v := 0) hB rfl (by unfold vp_in; decide) (by decide) dX6_init_106 ?_
  refine zc_iconst (v := 1) hB (by decide) dX6_init_107 ?_
  refine zc_iload_n hB 0 rfl rfl dX6_init_108 ?_
  refine zc_ishl (v := 32) hB (by decide) dX6_init_109 ?_
  refine zc_ior (v := 32) hB (by decide) dX6_init_110 ?_
  refine zc_iast (q0 := 1) (l0 := [2, 5, 10, 20, 40, 80, 0, 0]) (l1 := [2, 5, 10, 20, 40, 80, 32, 0]) hB rfl (by unfold vp_in; decide) (by decide) (by decide) dX6_init_111 ?_
  refine zc_ws (ws' := [(h0, .inr (4, [.ref q1, .int 3, .int 0, .int 0, .int 0, .ref q2, .ref q3, .ref q4, .int 0, .ref q5, .ref q6, .int 0, .int 0, .int 0, .ref q7, .int 0, .int 1, .ref q8])), (q1, .inl (T.1, 8, .inl (zfl [2, 5, 10, 20, 40, 80, 32, 0]))), (q2, .inl (T.1, 8, .inl (fun _ => 0))), (q3, .inl (T.1, 8, .inl (fun _ => 0))), (q4, .inl (T.1, 8, .inl (fun _ => 0))), (q5, .inl (T.1, 4, .inl (fun _ => 0))), (q6, .inl (T.1, 4, .inl (fun _ => 0))), (q7, .inl (T.1, 60, .inl (fun _ => 0))), (q8, .inl (T.1, 10, .inl (fun _ => 0)))]) rfl ?_
  refine zc_iinc (lv' := [(1, .int 6), (0, .ref h0)]) (v := 6) hB (j := 0) rfl (by decide) (by decide) rfl dX6_init_112 ?_
  refine zc_goto (tgt := 78) hB (by decide) dX6_init_115 ?_
  refine zc_iload_n hB 0 rfl rfl dX6_init_78 ?_
  refine zc_bipush (v := 7) hB (by decide) dX6_init_79 ?_
  refine zc_geF (tgt := 118) hB (by decide) (by decide) dX6_init_81 ?_
  refine zc_aload_n hB 1 rfl rfl dX6_init_84 ?_
  refine zc_get_X6 (q0 := 0) (k := 0) (v := .ref q1) hB rfl (by decide) rfl rfl lf_X6_9 dX6_init_85 ?_
  refine zc_iload_n hB 0 rfl rfl dX6_init_88 ?_
  refine zc_dup2 hB rfl rfl dX6_init_89 ?_
  refine zc_iald (q0 := 1) (v := 32) hB rfl (by unfold vp_in; decide) (by decide) dX6_init_90 ?_
  refine zc_iconst (v := 1) hB (by decide) dX6_init_91 ?_
  refine zc_iload_n hB 0 rfl rfl dX6_init_92 ?_
  refine zc_iconst (v := 1) hB (by decide) dX6_init_93 ?_
  refine zc_iadd (v := 7) hB (by decide) dX6_init_94 ?_
  refine zc_ishl (v := 128) hB (by decide) dX6_init_95 ?_
  refine zc_ior (v := 160) hB (by decide) dX6_init_96 ?_
  refine zc_iast (q0 := 1) (l0 := [2, 5, 10, 20, 40, 80, 32, 0]) (l1 := [2, 5, 10, 20, 40, 80, 160, 0]) hB rfl (by unfold vp_in; decide) (by decide) (by decide) dX6_init_97 ?_
  refine zc_ws (ws' := [(h0, .inr (4, [.ref q1, .int 3, .int 0, .int 0, .int 0, .ref q2, .ref q3, .ref q4, .int 0, .ref q5, .ref q6, .int 0, .int 0, .int 0, .ref q7, .int 0, .int 1, .ref q8])), (q1, .inl (T.1, 8, .inl (zfl [2, 5, 10, 20, 40, 80, 160, 0]))), (q2, .inl (T.1, 8, .inl (fun _ => 0))), (q3, .inl (T.1, 8, .inl (fun _ => 0))), (q4, .inl (T.1, 8, .inl (fun _ => 0))), (q5, .inl (T.1, 4, .inl (fun _ => 0))), (q6, .inl (T.1, 4, .inl (fun _ => 0))), (q7, .inl (T.1, 60, .inl (fun _ => 0))), (q8, .inl (T.1, 10, .inl (fun _ => 0)))]) rfl ?_
  refine zc_aload_n hB 1 rfl rfl dX6_init_98 ?_
  refine zc_get_X6 (q0 := 0) (k := 0) (v := .ref q1) hB rfl (by decide) rfl rfl lf_X6_9 dX6_init_99 ?_
  refine zc_iload_n hB 0 rfl rfl dX6_init_102 ?_
  refine zc_iconst (v := 1) hB (by decide) dX6_init_103 ?_
  refine zc_iadd (v := 7) hB (by decide) dX6_init_104 ?_
  refine zc_dup2 hB rfl rfl dX6_init_105 ?_
  refine zc_iald (q0 := 1) (v := 0) hB rfl (by unfold vp_in; decide) (by decide) dX6_init_106 ?_
  refine zc_iconst (v := 1) hB (by decide) dX6_init_107 ?_
  refine zc_iload_n hB 0 rfl rfl dX6_init_108 ?_
  refine zc_ishl (v := 64) hB (by decide) dX6_init_109 ?_
  refine zc_ior (v := 64) hB (by decide) dX6_init_110 ?_
  refine zc_iast (q0 := 1) (l0 := [2, 5, 10, 20, 40, 80, 160, 0]) (l1 := [2, 5, 10, 20, 40, 80, 160, 64]) hB rfl (by unfold vp_in; decide) (by decide) (by decide) dX6_init_111 ?_
  refine zc_ws (ws' := [(h0, .inr (4, [.ref q1, .int 3, .int 0, .int 0, .int 0, .ref q2, .ref q3, .ref q4, .int 0, .ref q5, .ref q6, .int 0, .int 0, .int 0, .ref q7, .int 0, .int 1, .ref q8])), (q1, .inl (T.1, 8, .inl (zfl [2, 5, 10, 20, 40, 80, 160, 64]))), (q2, .inl (T.1, 8, .inl (fun _ => 0))), (q3, .inl (T.1, 8, .inl (fun _ => 0))), (q4, .inl (T.1, 8, .inl (fun _ => 0))), (q5, .inl (T.1, 4, .inl (fun _ => 0))), (q6, .inl (T.1, 4, .inl (fun _ => 0))), (q7, .inl (T.1, 60, .inl (fun _ => 0))), (q8, .inl (T.1, 10, .inl (fun _ => 0)))]) rfl ?_
  refine zc_iinc (lv' := [(1, .int 7), (0, .ref h0)]) (v := 7) hB (j := 0) rfl (by decide) (by decide) rfl dX6_init_112 ?_
  refine zc_goto (tgt := 78) hB (by decide) dX6_init_115 ?_
  refine zc_iload_n hB 0 rfl rfl dX6_init_78 ?_
  refine zc_bipush (v := 7) hB (by decide) dX6_init_79 ?_
  refine zc_geT (tgt := 118) hB (by decide) (by decide) dX6_init_81 ?_
  refine zc_iconst (v := 0) hB (by decide) dX6_init_118 ?_
  refine zc_istore_n (lv' := [(1, .int 0), (0, .ref h0)]) hB rfl (by decide) rfl dX6_init_119 ?_
  refine zc_iload_n hB 0 rfl rfl dX6_init_120 ?_
  refine zc_bipush (v := 10) hB (by decide) dX6_init_121 ?_
  refine zc_geF (tgt := 139) hB (by decide) (by decide) dX6_init_123 ?_
  refine zc_aload_n hB 1 rfl rfl dX6_init_126 ?_
  refine zc_get_X6 (q0 := 0) (k := 17) (v := .ref q8) hB rfl (by decide) rfl rfl lf_X6_40 dX6_init_127 ?_
  refine zc_iload_n hB 0 rfl rfl dX6_init_130 ?_
  refine zc_iconst (v := (-1)) hB (by decide) dX6_init_131 ?_
  refine zc_ws (ws' := [(h0, .inr (4, [.ref q1, .int 3, .int 0, .int 0, .int 0, .ref q2, .ref q3, .ref q4, .int 0, .ref q5, .ref q6, .int 0, .int 0, .int 0, .ref q7, .int 0, .int 1, .ref q8])), (q1, .inl (T.1, 8, .inl (zfl [2, 5, 10, 20, 40, 80, 160, 64]))), (q2, .inl (T.1, 8, .inl (fun _ => 0))), (q3, .inl (T.1, 8, .inl (fun _ => 0))), (q4, .inl (T.1, 8, .inl (fun _ => 0))), (q5, .inl (T.1, 4, .inl (fun _ => 0))), (q6, .inl (T.1, 4, .inl (fun _ => 0))), (q7, .inl (T.1, 60, .inl (fun _ => 0))), (q8, .inl (T.1, 10, .inl (zfl [0, 0, 0, 0, 0, 0, 0, 0, 0, 0])))]) (by rw [show zfl [0, 0, 0, 0, 0, 0, 0, 0, 0, 0] = (fun _ => 0) from (zfl_0 10).symm]) ?_
  refine zc_iast (q0 := 8) (l0 := [0, 0, 0, 0, 0, 0, 0, 0, 0, 0]) (l1 := [-1, 0, 0, 0, 0, 0, 0, 0, 0, 0]) hB rfl (by unfold vp_in; decide) (by decide) (by decide) dX6_init_132 ?_
  refine zc_ws (ws' := [(h0, .inr (4, [.ref q1, .int 3, .int 0, .int 0, .int 0, .ref q2, .ref q3, .ref q4, .int 0, .ref q5, .ref q6, .int 0, .int 0, .int 0, .ref q7, .int 0, .int 1, .ref q8])), (q1, .inl (T.1, 8, .inl (zfl [2, 5, 10, 20, 40, 80, 160, 64]))), (q2, .inl (T.1, 8, .inl (fun _ => 0))), (q3, .inl (T.1, 8, .inl (fun _ => 0))), (q4, .inl (T.1, 8, .inl (fun _ => 0))), (q5, .inl (T.1, 4, .inl (fun _ => 0))), (q6, .inl (T.1, 4, .inl (fun _ => 0))), (q7, .inl (T.1, 60, .inl (fun _ => 0))), (q8, .inl (T.1, 10, .inl (zfl [-1, 0, 0, 0, 0, 0, 0, 0, 0, 0])))]) rfl ?_
  refine zc_iinc (lv' := [(1, .int 1), (0, .ref h0)]) (v := 1) hB (j := 0) rfl (by decide) (by decide) rfl dX6_init_133 ?_
  refine zc_goto (tgt := 120) hB (by decide) dX6_init_136 ?_
  refine zc_iload_n hB 0 rfl rfl dX6_init_120 ?_
  refine zc_bipush (v := 10) hB (by decide) dX6_init_121 ?_
  refine zc_geF (tgt := 139) hB (by decide) (by decide) dX6_init_123 ?_
  refine zc_aload_n hB 1 rfl rfl dX6_init_126 ?_
  refine zc_get_X6 (q0 := 0) (k := 17) (v := .ref q8) hB rfl (by decide) rfl rfl lf_X6_40 dX6_init_127 ?_
  refine zc_iload_n hB 0 rfl rfl dX6_init_130 ?_
  refine zc_iconst (v := (-1)) hB (by decide) dX6_init_131 ?_
  refine zc_iast (q0 := 8) (l0 := [-1, 0, 0, 0, 0, 0, 0, 0, 0, 0]) (l1 := [-1, -1, 0, 0, 0, 0, 0, 0, 0, 0]) hB rfl (by unfold vp_in; decide) (by decide) (by decide) dX6_init_132 ?_
  refine zc_ws (ws' := [(h0, .inr (4, [.ref q1, .int 3, .int 0, .int 0, .int 0, .ref q2, .ref q3, .ref q4, .int 0, .ref q5, .ref q6, .int 0, .int 0, .int 0, .ref q7, .int 0, .int 1, .ref q8])), (q1, .inl (T.1, 8, .inl (zfl [2, 5, 10, 20, 40, 80, 160, 64]))), (q2, .inl (T.1, 8, .inl (fun _ => 0))), (q3, .inl (T.1, 8, .inl (fun _ => 0))), (q4, .inl (T.1, 8, .inl (fun _ => 0))), (q5, .inl (T.1, 4, .inl (fun _ => 0))), (q6, .inl (T.1, 4, .inl (fun _ => 0))), (q7, .inl (T.1, 60, .inl (fun _ => 0))), (q8, .inl (T.1, 10, .inl (zfl [-1, -1, 0, 0, 0, 0, 0, 0, 0, 0])))]) rfl ?_
  refine zc_iinc (lv' := [(1, .int 2), (0, .ref h0)]) (v := 2) hB (j := 0) rfl (by decide) (by decide) rfl dX6_init_133 ?_
  refine zc_goto (tgt := 120) hB (by decide) dX6_init_136 ?_
  refine zc_iload_n hB 0 rfl rfl dX6_init_120 ?_
  refine zc_bipush (v := 10) hB (by decide) dX6_init_121 ?_
  refine zc_geF (tgt := 139) hB (by decide) (by decide) dX6_init_123 ?_
  refine zc_aload_n hB 1 rfl rfl dX6_init_126 ?_
  refine zc_get_X6 (q0 := 0) (k := 17) (v := .ref q8) hB rfl (by decide) rfl rfl lf_X6_40 dX6_init_127 ?_
  refine zc_iload_n hB 0 rfl rfl dX6_init_130 ?_
  refine zc_iconst (v := (-1)) hB (by decide) dX6_init_131 ?_
  refine zc_iast (q0 := 8) (l0 := [-1, -1, 0, 0, 0, 0, 0, 0, 0, 0]) (l1 := [-1, -1, -1, 0, 0, 0, 0, 0, 0, 0]) hB rfl (by unfold vp_in; decide) (by decide) (by decide) dX6_init_132 ?_
  refine zc_ws (ws' := [(h0, .inr (4, [.ref q1, .int 3, .int 0, .int 0, .int 0, .ref q2, .ref q3, .ref q4, .int 0, .ref q5, .ref q6, .int 0, .int 0, .int 0, .ref q7, .int 0, .int 1, .ref q8])), (q1, .inl (T.1, 8, .inl (zfl [2, 5, 10, 20, 40, 80, 160, 64]))), (q2, .inl (T.1, 8, .inl (fun _ => 0))), (q3, .inl (T.1, 8, .inl (fun _ => 0))), (q4, .inl (T.1, 8, .inl (fun _ => 0))), (q5, .inl (T.1, 4, .inl (fun _ => 0))), (q6, .inl (T.1, 4, .inl (fun _ => 0))), (q7, .inl (T.1, 60, .inl (fun _ => 0))), (q8, .inl (T.1, 10, .inl (zfl [-1, -1, -1, 0, 0, 0, 0, 0, 0, 0])))]) rfl ?_
  refine zc_iinc (lv' := [(1, .int 3), (0, .ref h0)]) (v := 3) hB (j := 0) rfl (by decide) (by decide) rfl dX6_init_133 ?_
  refine zc_goto (tgt := 120) hB (by decide) dX6_init_136 ?_
  refine zc_iload_n hB 0 rfl rfl dX6_init_120 ?_
  refine zc_bipush (v := 10) hB (by decide) dX6_init_121 ?_
  refine zc_geF (tgt := 139) hB (by decide) (by decide) dX6_init_123 ?_
  refine zc_aload_n hB 1 rfl rfl dX6_init_126 ?_
  refine zc_get_X6 (q0 := 0) (k := 17) (v := .ref q8) hB rfl (by decide) rfl rfl lf_X6_40 dX6_init_127 ?_
  refine zc_iload_n hB 0 rfl rfl dX6_init_130 ?_
  refine zc_iconst (v := (-1)) hB (by decide) dX6_init_131 ?_
  refine zc_iast (q0 := 8) (l0 := [-1, -1, -1, 0, 0, 0, 0, 0, 0, 0]) (l1 := [-1, -1, -1, -1, 0, 0, 0, 0, 0, 0]) hB rfl (by unfold vp_in; decide) (by decide) (by decide) dX6_init_132 ?_
  refine zc_ws (ws' := [(h0, .inr (4, [.ref q1, .int 3, .int 0, .int 0, .int 0, .ref q2, .ref q3, .ref q4, .int 0, .ref q5, .ref q6, .int 0, .int 0, .int 0, .ref q7, .int 0, .int 1, .ref q8])), (q1, .inl (T.1, 8, .inl (zfl [2, 5, 10, 20, 40, 80, 160, 64]))), (q2, .inl (T.1, 8, .inl (fun _ => 0))), (q3, .inl (T.1, 8, .inl (fun _ => 0))), (q4, .inl (T.1, 8, .inl (fun _ => 0))), (q5, .inl (T.1, 4, .inl (fun _ => 0))), (q6, .inl (T.1, 4, .inl (fun _ => 0))), (q7, .inl (T.1, 60, .inl (fun _ => 0))), (q8, .inl (T.1, 10, .inl (zfl [-1, -1, -1, -1, 0, 0, 0, 0, 0, 0])))]) rfl ?_
  refine zc_iinc (lv' := [(1, .int 4), (0, .ref h0)]) (v := 4) hB (j := 0) rfl (by decide) (by decide) rfl dX6_init_133 ?_
  refine zc_goto (tgt := 120) hB (by decide) dX6_init_136 ?_
  refine zc_iload_n hB 0 rfl rfl dX6_init_120 ?_
  refine zc_bipush (v := 10) hB (by decide) dX6_init_121 ?_
  refine zc_geF (tgt := 139) hB (by decide) (by decide) dX6_init_123 ?_
  refine zc_aload_n hB 1 rfl rfl dX6_init_126 ?_
  refine zc_get_X6 (q0 := 0) (k := 17) (v := .ref q8) hB rfl (by decide) rfl rfl lf_X6_40 dX6_init_127 ?_
  refine zc_iload_n hB 0 rfl rfl dX6_init_130 ?_
  refine zc_iconst (v := (-1)) hB (by decide) dX6_init_131 ?_
  refine zc_iast (q0 := 8) (l0 := [-1, -1, -1, -1, 0, 0, 0, 0, 0, 0]) (l1 := [-1, -1, -1, -1, -1, 0, 0, 0, 0, 0]) hB rfl (by unfold vp_in; decide) (by decide) (by decide) dX6_init_132 ?_
  refine zc_ws (ws' := [(h0, .inr (4, [.ref q1, .int 3, .int 0, .int 0, .int 0, .ref q2, .ref q3, .ref q4, .int 0, .ref q5, .ref q6, .int 0, .int 0, .int 0, .ref q7, .int 0, .int 1, .ref q8])), (q1, .inl (T.1, 8, .inl (zfl [2, 5, 10, 20, 40, 80, 160, 64]))), (q2, .inl (T.1, 8, .inl (fun _ => 0))), (q3, .inl (T.1, 8, .inl (fun _ => 0))), (q4, .inl (T.1, 8, .inl (fun _ => 0))), (q5, .inl (T.1, 4, .inl (fun _ => 0))), (q6, .inl (T.1, 4, .inl (fun _ => 0))), (q7, .inl (T.1, 60, .inl (fun _ => 0))), (q8, .inl (T.1, 10, .inl (zfl [-1, -1, -1, -1, -1, 0, 0, 0, 0, 0])))]) rfl ?_
  refine zc_iinc (lv' := [(1, .int 5), (0, .ref h0)]) (v := 5) hB (j := 0) rfl (by decide) (by decide) rfl dX6_init_133 ?_
  refine zc_goto (tgt := 120) hB (by decide) dX6_init_136 ?_
  refine zc_iload_n hB 0 rfl rfl dX6_init_120 ?_
  refine zc_bipush (v := 10) hB (by decide) dX6_init_121 ?_
  refine zc_geF (tgt := 139) hB (by decide) (by decide) dX6_init_123 ?_
  refine zc_aload_n hB 1 rfl rfl dX6_init_126 ?_
  refine zc_get_X6 (q0 := 0) (k := 17) (v := .ref q8) hB rfl (by decide) rfl rfl lf_X6_40 dX6_init_127 ?_
  refine zc_iload_n hB 0 rfl rfl dX6_init_130 ?_
  refine zc_iconst (v := (-1)) hB (by decide) dX6_init_131 ?_
  refine zc_iast (q0 := 8) (l0 := [-1, -1, -1, -1, -1, 0, 0, 0, 0, 0]) (l1 := [-1, -1, -1, -1, -1, -1, 0, 0, 0, 0]) hB rfl (by unfold vp_in; decide) (by decide) (by decide) dX6_init_132 ?_
  refine zc_ws (ws' := [(h0, .inr (4, [.ref q1, .int 3, .int 0, .int 0, .int 0, .ref q2, .ref q3, .ref q4, .int 0, .ref q5, .ref q6, .int 0, .int 0, .int 0, .ref q7, .int 0, .int 1, .ref q8])), (q1, .inl (T.1, 8, .inl (zfl [2, 5, 10, 20, 40, 80, 160, 64]))), (q2, .inl (T.1, 8, .inl (fun _ => 0))), (q3, .inl (T.1, 8, .inl (fun _ => 0))), (q4, .inl (T.1, 8, .inl (fun _ => 0))), (q5, .inl (T.1, 4, .inl (fun _ => 0))), (q6, .inl (T.1, 4, .inl (fun _ => 0))), (q7, .inl (T.1, 60, .inl (fun _ => 0))), (q8, .inl (T.1, 10, .inl (zfl [-1, -1, -1, -1, -1, -1, 0, 0, 0, 0])))]) rfl ?_
  refine zc_iinc (lv' := [(1, .int 6), (0, .ref h0)]) (v := 6) hB (j := 0) rfl (by decide) (by decide) rfl dX6_init_133 ?_
  refine zc_goto (tgt := 120) hB (by decide) dX6_init_136 ?_
  refine zc_iload_n hB 0 rfl rfl dX6_init_120 ?_
  refine zc_bipush (v := 10) hB (by decide) dX6_init_121 ?_
  refine zc_geF (tgt := 139) hB (by decide) (by decide) dX6_init_123 ?_
  refine zc_aload_n hB 1 rfl rfl dX6_init_126 ?_
  refine zc_get_X6 (q0 := 0) (k := 17) (v := .ref q8) hB rfl (by decide) rfl rfl lf_X6_40 dX6_init_127 ?_
  refine zc_iload_n hB 0 rfl rfl dX6_init_130 ?_
  refine zc_iconst (v := (-1)) hB (by decide) dX6_init_131 ?_
  refine zc_iast (q0 := 8) (l0 := [-1, -1, -1, -1, -1, -1, 0, 0, 0, 0]) (l1 := [-1, -1, -1, -1, -1, -1, -1, 0, 0, 0]) hB rfl (by unfold vp_in; decide) (by decide) (by decide) dX6_init_132 ?_
  refine zc_ws (ws' := [(h0, .inr (4, [.ref q1, .int 3, .int 0, .int 0, .int 0, .ref q2, .ref q3, .ref q4, .int 0, .ref q5, .ref q6, .int 0, .int 0, .int 0, .ref q7, .int 0, .int 1, .ref q8])), (q1, .inl (T.1, 8, .inl (zfl [2, 5, 10, 20, 40, 80, 160, 64]))), (q2, .inl (T.1, 8, .inl (fun _ => 0))), (q3, .inl (T.1, 8, .inl (fun _ => 0))), (q4, .inl (T.1, 8, .inl (fun _ => 0))), (q5, .inl (T.1, 4, .inl (fun _ => 0))), (q6, .inl (T.1, 4, .inl (fun _ => 0))), (q7, .inl (T.1, 60, .inl (fun _ => 0))), (q8, .inl (T.1, 10, .inl (zfl [-1, -1, -1, -1, -1, -1, -1, 0, 0, 0])))]) rfl ?_
  refine zc_iinc (lv' := [(1, .int 7), (0, .ref h0)]) (v := 7) hB (j := 0) rfl (by decide) (by decide) rfl dX6_init_133 ?_
  refine zc_goto (tgt := 120) hB (by decide) dX6_init_136 ?_
  refine zc_iload_n hB 0 rfl rfl dX6_init_120 ?_
  refine zc_bipush (v := 10) hB (by decide) dX6_init_121 ?_
  refine zc_geF (tgt := 139) hB (by decide) (by decide) dX6_init_123 ?_
  refine zc_aload_n hB 1 rfl rfl dX6_init_126 ?_
  refine zc_get_X6 (q0 := 0) (k := 17) (v := .ref q8) hB rfl (by decide) rfl rfl lf_X6_40 dX6_init_127 ?_
  refine zc_iload_n hB 0 rfl rfl dX6_init_130 ?_
  refine zc_iconst (v := (-1)) hB (by decide) dX6_init_131 ?_
  refine zc_iast (q0 := 8) (l0 := [-1, -1, -1, -1, -1, -1, -1, 0, 0, 0]) (l1 := [-1, -1, -1, -1, -1, -1, -1, -1, 0, 0]) hB rfl (by unfold vp_in; decide) (by decide) (by decide) dX6_init_132 ?_
  refine zc_ws (ws' := [(h0, .inr (4, [.ref q1, .int 3, .int 0, .int 0, .int 0, .ref q2, .ref q3, .ref q4, .int 0, .ref q5, .ref q6, .int 0, .int 0, .int 0, .ref q7, .int 0, .int 1, .ref q8])), (q1, .inl (T.1, 8, .inl (zfl [2, 5, 10, 20, 40, 80, 160, 64]))), (q2, .inl (T.1, 8, .inl (fun _ => 0))), (q3, .inl (T.1, 8, .inl (fun _ => 0))), (q4, .inl (T.1, 8, .inl (fun _ => 0))), (q5, .inl (T.1, 4, .inl (fun _ => 0))), (q6, .inl (T.1, 4, .inl (fun _ => 0))), (q7, .inl (T.1, 60, .inl (fun _ => 0))), (q8, .inl (T.1, 10, .inl (zfl [-1, -1, -1, -1, -1, -1, -1, -1, 0, 0])))]) rfl ?_
  refine zc_iinc (lv' := [(1, .int 8), (0, .ref h0)]) (v := 8) hB (j := 0) rfl (by decide) (by decide) rfl dX6_init_133 ?_
  refine zc_goto (tgt := 120) hB (by decide) dX6_init_136 ?_
  refine zc_iload_n hB 0 rfl rfl dX6_init_120 ?_
  refine zc_bipush (v := 10) hB (by decide) dX6_init_121 ?_
  refine zc_geF (tgt := 139) hB (by decide) (by decide) dX6_init_123 ?_
  refine zc_aload_n hB 1 rfl rfl dX6_init_126 ?_
  refine zc_get_X6 (q0 := 0) (k := 17) (v := .ref q8) hB rfl (by decide) rfl rfl lf_X6_40 dX6_init_127 ?_
  refine zc_iload_n hB 0 rfl rfl dX6_init_130 ?_
  refine zc_iconst (v := (-1)) hB (by decide) dX6_init_131 ?_
  refine zc_iast (q0 := 8) (l0 := [-1, -1, -1, -1, -1, -1, -1, -1, 0, 0]) (l1 := [-1, -1, -1, -1, -1, -1, -1, -1, -1, 0]) hB rfl (by unfold vp_in; decide) (by decide) (by decide) dX6_init_132 ?_
  refine zc_ws (ws' := [(h0, .inr (4, [.ref q1, .int 3, .int 0, .int 0, .int 0, .ref q2, .ref q3, .ref q4, .int 0, .ref q5, .ref q6, .int 0, .int 0, .int 0, .ref q7, .int 0, .int 1, .ref q8])), (q1, .inl (T.1, 8, .inl (zfl [2, 5, 10, 20, 40, 80, 160, 64]))), (q2, .inl (T.1, 8, .inl (fun _ => 0))), (q3, .inl (T.1, 8, .inl (fun _ => 0))), (q4, .inl (T.1, 8, .inl (fun _ => 0))), (q5, .inl (T.1, 4, .inl (fun _ => 0))), (q6, .inl (T.1, 4, .inl (fun _ => 0))), (q7, .inl (T.1, 60, .inl (fun _ => 0))), (q8, .inl (T.1, 10, .inl (zfl [-1, -1, -1, -1, -1, -1, -1, -1, -1, 0])))]) rfl ?_
  refine zc_iinc (lv' := [(1, .int 9), (0, .ref h0)]) (v := 9) hB (j := 0) rfl (by decide) (by decide) rfl dX6_init_133 ?_
  refine zc_goto (tgt := 120) hB (by decide) dX6_init_136 ?_
  refine zc_iload_n hB 0 rfl rfl dX6_init_120 ?_
  refine zc_bipush (v := 10) hB (by decide) dX6_init_121 ?_
  refine zc_geF (tgt := 139) hB (by decide) (by decide) dX6_init_123 ?_
  refine zc_aload_n hB 1 rfl rfl dX6_init_126 ?_
  refine zc_get_X6 (q0 := 0) (k := 17) (v := .ref q8) hB rfl (by decide) rfl rfl lf_X6_40 dX6_init_127 ?_
  refine zc_iload_n hB 0 rfl rfl dX6_init_130 ?_
  refine zc_iconst (v := (-1)) hB (by decide) dX6_init_131 ?_
  refine zc_iast (q0 := 8) (l0 := [-1, -1, -1, -1, -1, -1, -1, -1, -1, 0]) (l1 := [-1, -1, -1, -1, -1, -1, -1, -1, -1, -1]) hB rfl (by unfold vp_in; decide) (by decide) (by decide) dX6_init_132 ?_
  refine zc_ws (ws' := [(h0, .inr (4, [.ref q1, .int 3, .int 0, .int 0, .int 0, .ref q2, .ref q3, .ref q4, .int 0, .ref q5, .ref q6, .int 0, .int 0, .int 0, .ref q7, .int 0, .int 1, .ref q8])), (q1, .inl (T.1, 8, .inl (zfl [2, 5, 10, 20, 40, 80, 160, 64]))), (q2, .inl (T.1, 8, .inl (fun _ => 0))), (q3, .inl (T.1, 8, .inl (fun _ => 0))), (q4, .inl (T.1, 8, .inl (fun _ => 0))), (q5, .inl (T.1, 4, .inl (fun _ => 0))), (q6, .inl (T.1, 4, .inl (fun _ => 0))), (q7, .inl (T.1, 60, .inl (fun _ => 0))), (q8, .inl (T.1, 10, .inl (zfl [-1, -1, -1, -1, -1, -1, -1, -1, -1, -1])))]) rfl ?_
  refine zc_iinc (lv' := [(1, .int 10), (0, .ref h0)]) (v := 10) hB (j := 0) rfl (by decide) (by decide) rfl dX6_init_133 ?_
  refine zc_goto (tgt := 120) hB (by decide) dX6_init_136 ?_
  refine zc_iload_n hB 0 rfl rfl dX6_init_120 ?_
  refine zc_bipush (v := 10) hB (by decide) dX6_init_121 ?_
  refine zc_geT (tgt := 139) hB (by decide) (by decide) dX6_init_123 ?_
  exact zc_vret hB (fun i => [q1, q2, q3, q4, q5, q6, q7, q8].getD (i - 1) 0) rfl rfl rfl dX6_init_139
set_option maxHeartbeats 4000000 in
set_option maxRecDepth 100000 in
theorem mcX1_init {l : Launch} {D : va_G} {T : zT} (h0 : Nat) : zMc l yX1_init cX1_init 1 1 12 4 32 D T (fun _ => True) [.ref h0] [(h0, .inr (0, [.null, .null, .null, .null]))] (fun u => [(h0, .inr (0, [.ref (u 1), .ref (u 2), .ref (u 3), .ref (u 4)])), ((u 1), .inl (T.2.1, 8, .inr (.inl (fun _ => 0)))), ((u 2), .inl (T.2.1, 8, .inr (.inl (fun _ => 0)))), ((u 3), .inl (T.2.1, 8, .inr (.inl (fun _ => 0)))), ((u 4), .inl (T.1, 8, .inl (fun _ => 0)))]) := by
  refine zMc.of (by decide +kernel) (Nat.le_of_ble_eq_true rfl) (fun p e s m args below meth c _ hB hin hN => ?_)
  refine zc_aload_n hB 0 rfl rfl dX1_init_0 ?_
  refine zc_obj hB lm_X1_3 (by decide) (by decide) dX1_init_1 ?_
  refine zc_aload_n hB 0 rfl rfl dX1_init_4 ?_
  refine zc_bipush (v := 8) hB (by decide) dX1_init_5 ?_
  refine zc_newaL (N := 8) hB (by decide) (by decide) (by decide) (by decide) (by decide) dX1_init_7 (fun q1 => ?_)
  refine zc_cs (cells' := 1) (slots' := 8) rfl rfl ?_
  refine zc_ws (ws' := [(h0, .inr (0, [.null, .null, .null, .null])), (q1, .inl (T.2.1, 8, .inr (.inl (fun _ => 0))))]) rfl ?_
  refine zc_putF_X1 (q0 := 0) (k := 0) (ty := tyX1 0) hB hin rfl (by decide) rfl (tyX1_ok 0 (by decide)) rfl rfl rfl rfl rfl lf_X1_9 dX1_init_9 ?_
  refine zc_ws (ws' := [(h0, .inr (0, [.ref q1, .null, .null, .null])), (q1, .inl (T.2.1, 8, .inr (.inl (fun _ => 0))))]) rfl ?_
  refine zc_aload_n hB 0 rfl rfl dX1_init_12 ?_
  refine zc_bipush (v := 8) hB (by decide) dX1_init_13 ?_
  refine zc_newaL (N := 8) hB (by decide) (by decide) (by decide) (by decide) (by decide) dX1_init_15 (fun q2 => ?_)
  refine zc_cs (cells' := 2) (slots' := 16) rfl rfl ?_
  refine zc_ws (ws' := [(h0, .inr (0, [.ref q1, .null, .null, .null])), (q1, .inl (T.2.1, 8, .inr (.inl (fun _ => 0)))), (q2, .inl (T.2.1, 8, .inr (.inl (fun _ => 0))))]) rfl ?_
  refine zc_putF_X1 (q0 := 0) (k := 1) (ty := tyX1 1) hB hin rfl (by decide) rfl (tyX1_ok 1 (by decide)) rfl rfl rfl rfl rfl lf_X1_15 dX1_init_17 ?_
  refine zc_ws (ws' := [(h0, .inr (0, [.ref q1, .ref q2, .null, .null])), (q1, .inl (T.2.1, 8, .inr (.inl (fun _ => 0)))), (q2, .inl (T.2.1, 8, .inr (.inl (fun _ => 0))))]) rfl ?_
  refine zc_aload_n hB 0 rfl rfl dX1_init_20 ?_
  refine zc_bipush (v := 8) hB (by decide) dX1_init_21 ?_
  refine zc_newaL (N := 8) hB (by decide) (by decide) (by decide) (by decide) (by decide) dX1_init_23 (fun q3 => ?_)
  refine zc_cs (cells' := 3) (slots' := 24) rfl rfl ?_
  refine zc_ws (ws' := [(h0, .inr (0, [.ref q1, .ref q2, .null, .null])), (q1, .inl (T.2.1, 8, .inr (.inl (fun _ => 0)))), (q2, .inl (T.2.1, 8, .inr (.inl (fun _ => 0)))), (q3, .inl (T.2.1, 8, .inr (.inl (fun _ => 0))))]) rfl ?_
  refine zc_putF_X1 (q0 := 0) (k := 2) (ty := tyX1 2) hB hin rfl (by decide) rfl (tyX1_ok 2 (by decide)) rfl rfl rfl rfl rfl lf_X1_18 dX1_init_25 ?_
  refine zc_ws (ws' := [(h0, .inr (0, [.ref q1, .ref q2, .ref q3, .null])), (q1, .inl (T.2.1, 8, .inr (.inl (fun _ => 0)))), (q2, .inl (T.2.1, 8, .inr (.inl (fun _ => 0)))), (q3, .inl (T.2.1, 8, .inr (.inl (fun _ => 0))))]) rfl ?_
  refine zc_aload_n hB 0 rfl rfl dX1_init_28 ?_
  refine zc_bipush (v := 8) hB (by decide) dX1_init_29 ?_
  refine zc_newa (N := 8) hB (by decide) (by decide) (by decide) (by decide) (by decide) dX1_init_31 (fun q4 => ?_)
  refine zc_cs (cells' := 4) (slots' := 32) rfl rfl ?_
  refine zc_ws (ws' := [(h0, .inr (0, [.ref q1, .ref q2, .ref q3, .null])), (q1, .inl (T.2.1, 8, .inr (.inl (fun _ => 0)))), (q2, .inl (T.2.1, 8, .inr (.inl (fun _ => 0)))), (q3, .inl (T.2.1, 8, .inr (.inl (fun _ => 0)))), (q4, .inl (T.1, 8, .inl (fun _ => 0)))]) rfl ?_
  refine zc_putF_X1 (q0 := 0) (k := 3) (ty := tyX1 3) hB hin rfl (by decide) rfl (tyX1_ok 3 (by decide)) rfl rfl rfl rfl rfl lf_X1_21 dX1_init_33 ?_
  refine zc_ws (ws' := [(h0, .inr (0, [.ref q1, .ref q2, .ref q3, .ref q4])), (q1, .inl (T.2.1, 8, .inr (.inl (fun _ => 0)))), (q2, .inl (T.2.1, 8, .inr (.inl (fun _ => 0)))), (q3, .inl (T.2.1, 8, .inr (.inl (fun _ => 0)))), (q4, .inl (T.1, 8, .inl (fun _ => 0)))]) rfl ?_
  exact zc_vret hB (fun i => [q1, q2, q3, q4].getD (i - 1) 0) rfl rfl rfl dX1_init_36
set_option maxHeartbeats 4000000 in
set_option maxRecDepth 100000 in
theorem mcX3_init {l : Launch} {D : va_G} {T : zT} (h0 : Nat) : zMc l yX3_init cX3_init 1 1 12 4 480 D T (fun _ => True) [.ref h0] [(h0, .inr (2, [.null, .int 0, .null, .null, .null, .int 0]))] (fun u => [(h0, .inr (2, [.ref (u 1), .int 0, .ref (u 2), .ref (u 3), .ref (u 4), .int 0])), ((u 1), .inl (T.1, 120, .inl (fun _ => 0))), ((u 2), .inl (T.1, 120, .inl (fun _ => 0))), ((u 3), .inl (T.1, 120, .inl (fun _ => 0))), ((u 4), .inl (T.1, 120, .inl (fun _ => 0)))]) := by
  refine zMc.of (by decide +kernel) (Nat.le_of_ble_eq_true rfl) (fun p e s m args below meth c _ hB hin hN => ?_)
  refine zc_aload_n hB 0 rfl rfl dX3_init_0 ?_
  refine zc_obj hB lm_X3_3 (by decide) (by decide) dX3_init_1 ?_
  refine zc_aload_n hB 0 rfl rfl dX3_init_4 ?_
  refine zc_bipush (v := 120) hB (by decide) dX3_init_5 ?_
  refine zc_newa (N := 120) hB (by decide) (by decide) (by decide) (by decide) (by decide) dX3_init_7 (fun q1 => ?_)
  refine zc_cs (cells' := 1) (slots' := 120) rfl rfl ?_
  refine zc_ws (ws' := [(h0, .inr (2, [.null, .int 0, .null, .null, .null, .int 0])), (q1, .inl (T.1, 120, .inl (fun _ => 0)))]) rfl ?_
  refine zc_putF_X3 (q0 := 0) (k := 0) (ty := tyX3 0) hB hin rfl (by decide) rfl (tyX3_ok 0 (by decide)) rfl rfl rfl rfl rfl lf_X3_11 dX3_init_9 ?_
  refine zc_ws (ws' := [(h0, .inr (2, [.ref q1, .int 0, .null, .null, .null, .int 0])), (q1, .inl (T.1, 120, .inl (fun _ => 0)))]) rfl ?_
  refine zc_aload_n hB 0 rfl rfl dX3_init_12 ?_
  refine zc_bipush (v := 120) hB (by decide) dX3_init_13 ?_
  refine zc_newa (N := 120) hB (by decide) (by decide) (by decide) (by decide) (by decide) dX3_init_15 (fun q2 => ?_)
  refine zc_cs (cells' := 2) (slots' := 240) rfl rfl ?_
  refine zc_ws (ws' := [(h0, .inr (2, [.ref q1, .int 0, .null, .null, .null, .int 0])), (q1, .inl (T.1, 120, .inl (fun _ => 0))), (q2, .inl (T.1, 120, .inl (fun _ => 0)))]) rfl ?_
  refine zc_putF_X3 (q0 := 0) (k := 2) (ty := tyX3 2) hB hin rfl (by decide) rfl (tyX3_ok 2 (by decide)) rfl rfl rfl rfl rfl lf_X3_15 dX3_init_17 ?_
  refine zc_ws (ws' := [(h0, .inr (2, [.ref q1, .int 0, .ref q2, .null, .null, .int 0])), (q1, .inl (T.1, 120, .inl (fun _ => 0))), (q2, .inl (T.1, 120, .inl (fun _ => 0)))]) rfl ?_
  refine zc_aload_n hB 0 rfl rfl dX3_init_20 ?_
  refine zc_bipush (v := 120) hB (by decide) dX3_init_21 ?_
  refine zc_newa (N := 120) hB (by decide) (by decide) (by decide) (by decide) (by decide) dX3_init_23 (fun q3 => ?_)
  refine zc_cs (cells' := 3) (slots' := 360) rfl rfl ?_
  refine zc_ws (ws' := [(h0, .inr (2, [.ref q1, .int 0, .ref q2, .null, .null, .int 0])), (q1, .inl (T.1, 120, .inl (fun _ => 0))), (q2, .inl (T.1, 120, .inl (fun _ => 0))), (q3, .inl (T.1, 120, .inl (fun _ => 0)))]) rfl ?_
  refine zc_putF_X3 (q0 := 0) (k := 3) (ty := tyX3 3) hB hin rfl (by decide) rfl (tyX3_ok 3 (by decide)) rfl rfl rfl rfl rfl lf_X3_18 dX3_init_25 ?_
  refine zc_ws (ws' := [(h0, .inr (2, [.ref q1, .int 0, .ref q2, .ref q3, .null, .int 0])), (q1, .inl (T.1, 120, .inl (fun _ => 0))), (q2, .inl (T.1, 120, .inl (fun _ => 0))), (q3, .inl (T.1, 120, .inl (fun _ => 0)))]) rfl ?_
  refine zc_aload_n hB 0 rfl rfl dX3_init_28 ?_
  refine zc_bipush (v := 120) hB (by decide) dX3_init_29 ?_
  refine zc_newa (N := 120) hB (by decide) (by decide) (by decide) (by decide) (by decide) dX3_init_31 (fun q4 => ?_)
  refine zc_cs (cells' := 4) (slots' := 480) rfl rfl ?_
  refine zc_ws (ws' := [(h0, .inr (2, [.ref q1, .int 0, .ref q2, .ref q3, .null, .int 0])), (q1, .inl (T.1, 120, .inl (fun _ => 0))), (q2, .inl (T.1, 120, .inl (fun _ => 0))), (q3, .inl (T.1, 120, .inl (fun _ => 0))), (q4, .inl (T.1, 120, .inl (fun _ => 0)))]) rfl ?_
  refine zc_putF_X3 (q0 := 0) (k := 4) (ty := tyX3 4) hB hin rfl (by decide) rfl (tyX3_ok 4 (by decide)) rfl rfl rfl rfl rfl lf_X3_21 dX3_init_33 ?_
  refine zc_ws (ws' := [(h0, .inr (2, [.ref q1, .int 0, .ref q2, .ref q3, .ref q4, .int 0])), (q1, .inl (T.1, 120, .inl (fun _ => 0))), (q2, .inl (T.1, 120, .inl (fun _ => 0))), (q3, .inl (T.1, 120, .inl (fun _ => 0))), (q4, .inl (T.1, 120, .inl (fun _ => 0)))]) rfl ?_
  exact zc_vret hB (fun i => [q1, q2, q3, q4].getD (i - 1) 0) rfl rfl rfl dX3_init_36
set_option maxHeartbeats 4000000 in
set_option maxRecDepth 100000 in
theorem mcX4_init {l : Launch} {D : va_G} {T : zT} (h0 : Nat) : zMc l yX4_init cX4_init 1 2 40 6 606 D T zN4 [.ref h0] [(h0, .inr (3, [.null, .null, .int 0, .int 0, .int 0, .int 0, .int 0]))] (fun u => [((u 1), .inr (2, [.ref (u 2), .int 0, .ref (u 3), .ref (u 4), .ref (u 5), .int 0])), ((u 2), .inl (T.1, 120, .inl (fun _ => 0))), ((u 3), .inl (T.1, 120, .inl (fun _ => 0))), ((u 4), .inl (T.1, 120, .inl (fun _ => 0))), ((u 5), .inl (T.1, 120, .inl (fun _ => 0))), (h0, .inr (3, [.ref (u 1), .ref (u 6), .int 0, .int 0, .int 0, .int 0, .int 0])), ((u 6), .inl (T.1, 120, .inl (fun _ => 0)))]) := by
  refine zMc.of (by decide +kernel) (Nat.le_of_ble_eq_true rfl) (fun p e s m args below meth c _ hB hin hN => ?_)
  refine zc_aload_n hB 0 rfl rfl dX4_init_0 ?_
  refine zc_obj hB lm_X4_5 (by decide) (by decide) dX4_init_1 ?_
  refine zc_aload_n hB 0 rfl rfl dX4_init_4 ?_
  refine zc_new_X3 (fs := [.null, .int 0, .null, .null, .null, .int 0]) hB zfs_X3 lc_X4_1 li_X3 q4_X3 (by decide) (by decide) dX4_init_5 (fun q1 => ?_)
  refine zc_cs (cells' := 1) (slots' := 6) rfl rfl ?_
  refine zc_ws (ws' := [(h0, .inr (3, [.null, .null, .int 0, .int 0, .int 0, .int 0, .int 0])), (q1, .inr (2, [.null, .int 0, .null, .null, .null, .int 0]))]) rfl ?_
  refine zc_dup hB rfl dX4_init_8 ?_
  refine zc_callN (host := RX7) (X := fun _ => True) (st := [.ref q1, .ref h0]) (As := []) (wr := [(h0, .inr (3, [.null, .null, .int 0, .int 0, .int 0, .int 0, .int 0]))]) (x := (q1, .inr (2, [.null, .int 0, .null, .null, .null, .int 0]))) hB rfl (fun _ _ _ _ _ => trivial) (fun _ _ _ _ _ _ _ => trivial) (mcX3_init (l := l) (D := D) (T := T) q1) hN q2_X3_init q4_X3 q5_X3_init rfl qd_X3_init (by decide) rfl rfl (Nat.le_of_ble_eq_true rfl) (by decide) dX4_init_9 (fun u2 => ?_)
  refine zc_cs (cells' := 5) (slots' := 486) rfl rfl ?_
  refine zc_ws (ws' := [(h0, .inr (3, [.null, .null, .int 0, .int 0, .int 0, .int 0, .int 0])), (q1, .inr (2, [.ref (u2 1), .int 0, .ref (u2 2), .ref (u2 3), .ref (u2 4), .int 0])), ((u2 1), .inl (T.1, 120, .inl (fun _ => 0))), ((u2 2), .inl (T.1, 120, .inl (fun _ => 0))), ((u2 3), .inl (T.1, 120, .inl (fun _ => 0))), ((u2 4), .inl (T.1, 120, .inl (fun _ => 0)))]) rfl ?_
  refine zc_putF_X4 (q0 := 0) (k := 0) (ty := tyX4 0) hB hin rfl (by decide) rfl (tyX4_ok 0 (by decide)) rfl rfl rfl rfl rfl lf_X4_12 dX4_init_12 ?_
  refine zc_ws (ws' := [(h0, .inr (3, [.ref q1, .null, .int 0, .int 0, .int 0, .int 0, .int 0])), (q1, .inr (2, [.ref (u2 1), .int 0, .ref (u2 2), .ref (u2 3), .ref (u2 4), .int 0])), ((u2 1), .inl (T.1, 120, .inl (fun _ => 0))), ((u2 2), .inl (T.1, 120, .inl (fun _ => 0))), ((u2 3), .inl (T.1, 120, .inl (fun _ => 0))), ((u2 4), .inl (T.1, 120, .inl (fun _ => 0)))]) rfl ?_
  refine zc_aload_n hB 0 rfl rfl dX4_init_15 ?_
  refine zc_bipush (v := 120) hB (by decide) dX4_init_16 ?_
  refine zc_newa (N := 120) hB (by decide) (by decide) (by decide) (by decide) (by decide) dX4_init_18 (fun q3 => ?_)
  refine zc_cs (cells' := 6) (slots' := 606) rfl rfl ?_
  refine zc_ws (ws' := [(h0, .inr (3, [.ref q1, .null, .int 0, .int 0, .int 0, .int 0, .int 0])), (q1, .inr (2, [.ref (u2 1), .int 0, .ref (u2 2), .ref (u2 3), .ref (u2 4), .int 0])), ((u2 1), .inl (T.1, 120, .inl (fun _ => 0))), ((u2 2), .inl (T.1, 120, .inl (fun _ => 0))), ((u2 3), .inl (T.1, 120, .inl (fun _ => 0))), ((u2 4), .inl (T.1, 120, .inl (fun _ => 0))), (q3, .inl (T.1, 120, .inl (fun _ => 0)))]) rfl ?_
  refine zc_putF_X4 (q0 := 0) (k := 1) (ty := tyX4 1) hB hin rfl (by decide) rfl (tyX4_ok 1 (by decide)) rfl rfl rfl rfl rfl lf_X4_18 dX4_init_20 ?_
  refine zc_ws (ws' := [(h0, .inr (3, [.ref q1, .ref q3, .int 0, .int 0, .int 0, .int 0, .int 0])), (q1, .inr (2, [.ref (u2 1), .int 0, .ref (u2 2), .ref (u2 3), .ref (u2 4), .int 0])), ((u2 1), .inl (T.1, 120, .inl (fun _ => 0))), ((u2 2), .inl (T.1, 120, .inl (fun _ => 0))), ((u2 3), .inl (T.1, 120, .inl (fun _ => 0))), ((u2 4), .inl (T.1, 120, .inl (fun _ => 0))), (q3, .inl (T.1, 120, .inl (fun _ => 0)))]) rfl ?_
  refine zc_perm (n := 7) (ws' := [(q1, .inr (2, [.ref (u2 1), .int 0, .ref (u2 2), .ref (u2 3), .ref (u2 4), .int 0])), ((u2 1), .inl (T.1, 120, .inl (fun _ => 0))), ((u2 2), .inl (T.1, 120, .inl (fun _ => 0))), ((u2 3), .inl (T.1, 120, .inl (fun _ => 0))), ((u2 4), .inl (T.1, 120, .inl (fun _ => 0))), (h0, .inr (3, [.ref q1, .ref q3, .int 0, .int 0, .int 0, .int 0, .int 0])), (q3, .inl (T.1, 120, .inl (fun _ => 0)))]) (fun k => [1, 2, 3, 4, 5, 0, 6].getD k k) rfl (fun k q hq => ?_) (by decide) ?_
  · match k, hq with
    | 0, hq => exact hq
    | 1, hq => exact hq
    | 2, hq => exact hq
    | 3, hq => exact hq
    | 4, hq => exact hq
    | 5, hq => exact hq
    | 6, hq => exact hq
    | k + 7, hq => simp at hq
  exact zc_vret hB (fun i => [q1, (u2 1), (u2 2), (u2 3), (u2 4), q3].getD (i - 1) 0) rfl rfl rfl dX4_init_23
set_option maxHeartbeats 4000000 in
set_option maxRecDepth 100000 in
theorem mcX2_init {l : Launch} {D : va_G} {T : zT} (h0 : Nat) : zMc l yX2_init cX2_init 1 1 12 1 40 D T (fun _ => True) [.ref h0] [(h0, .inr (1, [.int 0, .int 0, .null]))] (fun u => [(h0, .inr (1, [.int 0, .int 0, .ref (u 1)])), ((u 1), .inl (T.1, 40, .inl (fun _ => 0)))]) := by
  refine zMc.of (by decide +kernel) (Nat.le_of_ble_eq_true rfl) (fun p e s m args below meth c _ hB hin hN => ?_)
  refine zc_aload_n hB 0 rfl rfl dX2_init_0 ?_
  refine zc_obj hB lm_X2_3 (by decide) (by decide) dX2_init_1 ?_
  refine zc_aload_n hB 0 rfl rfl dX2_init_4 ?_
  refine zc_bipush (v := 40) hB (by decide) dX2_init_5 ?_
  refine zc_newa (N := 40) hB (by decide) (by decide) (by decide) (by decide) (by decide) dX2_init_7 (fun q1 => ?_)
  refine zc_cs (cells' := 1) (slots' := 40) rfl rfl ?_
  refine zc_ws (ws' := [(h0, .inr (1, [.int 0, .int 0, .null])), (q1, .inl (T.1, 40, .inl (fun _ => 0)))]) rfl ?_
  refine zc_putF_X2 (q0 := 0) (k := 2) (ty := tyX2 2) hB hin rfl (by decide) rfl (tyX2_ok 2 (by decide)) rfl rfl rfl rfl rfl lf_X2_9 dX2_init_9 ?_
  refine zc_ws (ws' := [(h0, .inr (1, [.int 0, .int 0, .ref q1])), (q1, .inl (T.1, 40, .inl (fun _ => 0)))]) rfl ?_
  exact zc_vret hB (fun i => [q1].getD (i - 1) 0) rfl rfl rfl dX2_init_12
/-- what the cells of the class hold at first -/
def zI0 : zI := fun c => match c with
  | 1 | 10 | 19 => zfl [0, 3, 0, 0, 0, 0, 0, 0, 0, 0, 0, 0, 0, 0, 0, 0, 1, 0]
  | 2 | 11 | 20 => zfl [2, 5, 10, 20, 40, 80, 160, 64]
  | 9 | 18 | 27 => zfl [-1, -1, -1, -1, -1, -1, -1, -1, -1, -1]
  | _ => fun _ => 0
def zWn (n : Nat) (T : zT) (ad : Nat → Nat) (I : zI) (L : zL) : va_W := (List.range n).map fun i => (ad i, zc T ad i (I i) (L i))
def zad0 (h0 : Nat) (u : Nat → Nat) : Nat → Nat := fun i => if i = 0 then h0 else u i
def zN3 (U : State) : Prop := va_Nw (.methodLinkNest RX7 24 yX1_init RX7) U ∧ va_Nw (.methodLinkNest RX7 31 yX4_init RX7) U ∧ va_Nw (.methodLinkNest RX7 46 yX2_init RX7) U ∧ va_AO RX2 U ∧ va_Nw (.methodLinkNest RX4 11 yX3_init RX7) U
theorem zc_swap {p : Program} {l : Launch} {e : Env} {R : Room} {s : State} {m : MethodId} {args : Array Value} {below : List Frame} {meth : Method} {c : Code} {D : va_G} {T : zT} {A : Nat → Prop} {nL cells slots : Nat} {Q : State → Prop} {pc : Nat} {lv : List (Nat × Value)} {st : List Value} {ws : va_W} (q0 : Nat) {a : Nat} {e1 e2 : va_E} (h : ws[q0]? = some (a, e1)) (he : ∀ H, va_at D vwCl (a, e1) H → va_at D vwCl (a, e2) H) (k : zC p l e R s m args below meth c D T A nL cells slots Q pc lv st (ws.set q0 (a, e2))) : zC p l e R s m args below meth c D T A nL cells slots Q pc lv st ws := by
  intro H locs ls hP hD hS hl
  refine k H locs ls (fun i q hq => ?_) (hD.set h) hS hl
  rw [List.getElem?_set] at hq
  by_cases hi : q0 = i
  · subst hi
    rw [if_pos rfl, if_pos (List.getElem?_eq_some_iff.mp h).1] at hq
    cases hq
    exact he H (hP q0 _ h)
  · rw [if_neg hi] at hq
    exact hP i q hq
theorem zat_q {D : va_G} {cl : List vw_C} {a n : Nat} {cA : ClassId} {f g : Nat → Option Nat} {H : Heap} (hf : ∀ k, k < n → f k = g k) (h : va_at D cl (a, .inl (cA, n, .inr (.inr (.inr (.inr f))))) H) : va_at D cl (a, .inl (cA, n, .inr (.inr (.inr (.inr g))))) H := by
  have e1 : vp_cell cA (n, .inr (.inr (.inr (.inr f)))) = vp_cell cA (n, .inr (.inr (.inr (.inr g)))) := by
    show arrV cA n (fun j => va_rf (f j)) = arrV cA n (fun j => va_rf (g j))
    unfold arrV
    congr 1
    apply Array.ext
    · simp
    · intro i h1 h2
      simp at h1
      simp [hf i h1]
  show H[a]? = some (vp_cell cA (n, .inr (.inr (.inr (.inr g)))))
  rw [← e1]
  exact h
set_option maxHeartbeats 8000000 in
set_option maxRecDepth 100000 in
theorem mcX7_init {l : Launch} {D : va_G} {T : zT} (h0 : Nat) : zMc l yX7_init cX7_init 2 3 60 49 1216 D T zN3 [.ref h0] [(h0, .inr (5, [.null, .null, .null, .int 0, .null, .null, .null, .null]))] (fun u => zWn 50 T (zad0 h0 u) zI0 (fun _ _ => 0)) := by
  refine zMc.of (by decide +kernel) (Nat.le_of_ble_eq_true rfl) (fun p e s m args below meth c _ hB hin hN => ?_)
  refine zc_aload_n hB 0 rfl rfl dX7_init_0 ?_
  refine zc_obj hB lm_X7_3 (by decide) (by decide) dX7_init_1 ?_
  refine zc_aload_n hB 0 rfl rfl dX7_init_4 ?_
  refine zc_new_X6 (fs := [.null, .int 0, .int 0, .int 0, .int 0, .null, .null, .null, .int 0, .null, .null, .int 0, .int 0, .int 0, .null, .int 0, .int 0, .null]) hB zfs_X6 lc_X7_9 li_X6 q4_X6 (by decide) (by decide) dX7_init_5 (fun q1 => ?_)
  refine zc_cs (cells' := 1) (slots' := 18) rfl rfl ?_
  refine zc_ws (ws' := [(h0, .inr (5, [.null, .null, .null, .int 0, .null, .null, .null, .null])), (q1, .inr (4, [.null, .int 0, .int 0, .int 0, .int 0, .null, .null, .null, .int 0, .null, .null, .int 0, .int 0, .int 0, .null, .int 0, .int 0, .null]))]) rfl ?_
  refine zc_dup hB rfl dX7_init_8 ?_
  refine zc_callI (X := fun _ => True) (st := [.ref q1, .ref h0]) (As := []) (wr := [(h0, .inr (5, [.null, .null, .null, .int 0, .null, .null, .null, .null]))]) (x := (q1, .inr (4, [.null, .int 0, .int 0, .int 0, .int 0, .null, .null, .null, .int 0, .null, .null, .int 0, .int 0, .int 0, .null, .int 0, .int 0, .null]))) hB rfl (fun _ _ _ _ _ => trivial) (fun _ _ _ _ _ _ _ => trivial) (mcX6_init (l := l) (D := D) (T := T) q1) lm_X7_11 q2_X6_init q4_X6 q5_X6_init rfl qd_X6_init (by decide) rfl rfl (Nat.le_of_ble_eq_true rfl) (by decide) dX7_init_9 (fun u2 => ?_)
  refine zc_cs (cells' := 9) (slots' := 128) rfl rfl ?_
  refine zc_ws (ws' := [(h0, .inr (5, [.null, .null, .null, .int 0, .null, .null, .null, .null])), (q1, .inr (4, [.ref (u2 1), .int 3, .int 0, .int 0, .int 0, .ref (u2 2), .ref (u2 3), .ref (u2 4), .int 0, .ref (u2 5), .ref (u2 6), .int 0, .int 0, .int 0, .ref (u2 7), .int 0, .int 1, .ref (u2 8)])), ((u2 1), .inl (T.1, 8, .inl (zfl [2, 5, 10, 20, 40, 80, 160, 64]))), ((u2 2), .inl (T.1, 8, .inl (fun _ => 0))), ((u2 3), .inl (T.1, 8, .inl (fun _ => 0))), ((u2 4), .inl (T.1, 8, .inl (fun _ => 0))), ((u2 5), .inl (T.1, 4, .inl (fun _ => 0))), ((u2 6), .inl (T.1, 4, .inl (fun _ => 0))), ((u2 7), .inl (T.1, 60, .inl (fun _ => 0))), ((u2 8), .inl (T.1, 10, .inl (zfl [-1, -1, -1, -1, -1, -1, -1, -1, -1, -1])))]) rfl ?_
  refine zc_putF_X7 (q0 := 0) (k := 0) (ty := tyX7 0) hB hin rfl (by decide) rfl (tyX7_ok 0 (by decide)) rfl rfl rfl rfl rfl lf_X7_12 dX7_init_12 ?_
  refine zc_ws (ws' := [(h0, .inr (5, [.ref q1, .null, .null, .int 0, .null, .null, .null, .null])), (q1, .inr (4, [.ref (u2 1), .int 3, .int 0, .int 0, .int 0, .ref (u2 2), .ref (u2 3), .ref (u2 4), .int 0, .ref (u2 5), .ref (u2 6), .int 0, .int 0, .int 0, .ref (u2 7), .int 0, .int 1, .ref (u2 8)])), ((u2 1), .inl (T.1, 8, .inl (zfl [2, 5, 10, 20, 40, 80, 160, 64]))), ((u2 2), .inl (T.1, 8, .inl (fun _ => 0))), ((u2 3), .inl (T.1, 8, .inl (fun _ => 0))), ((u2 4), .inl (T.1, 8, .inl (fun _ => 0))), ((u2 5), .inl (T.1, 4, .inl (fun _ => 0))), ((u2 6), .inl (T.1, 4, .inl (fun _ => 0))), ((u2 7), .inl (T.1, 60, .inl (fun _ => 0))), ((u2 8), .inl (T.1, 10, .inl (zfl [-1, -1, -1, -1, -1, -1, -1, -1, -1, -1])))]) rfl ?_
  refine zc_aload_n hB 0 rfl rfl dX7_init_15 ?_
  refine zc_new_X6 (fs := [.null, .int 0, .int 0, .int 0, .int 0, .null, .null, .null, .int 0, .null, .null, .int 0, .int 0, .int 0, .null, .int 0, .int 0, .null]) hB zfs_X6 lc_X7_9 li_X6 q4_X6 (by decide) (by decide) dX7_init_16 (fun q3 => ?_)
  refine zc_cs (cells' := 10) (slots' := 146) rfl rfl ?_
  refine zc_ws (ws' := [(h0, .inr (5, [.ref q1, .null, .null, .int 0, .null, .null, .null, .null])), (q1, .inr (4, [.ref (u2 1), .int 3, .int 0, .int 0, .int 0, .ref (u2 2), .ref (u2 3), .ref (u2 4), .int 0, .ref (u2 5), .ref (u2 6), .int 0, .int 0, .int 0, .ref (u2 7), .int 0, .int 1, .ref (u2 8)])), ((u2 1), .inl (T.1, 8, .inl (zfl [2, 5, 10, 20, 40, 80, 160, 64]))), ((u2 2), .inl (T.1, 8, .inl (fun _ => 0))), ((u2 3), .inl (T.1, 8, .inl (fun _ => 0))), ((u2 4), .inl (T.1, 8, .inl (fun _ => 0))), ((u2 5), .inl (T.1, 4, .inl (fun _ => 0))), ((u2 6), .inl (T.1, 4, .inl (fun _ => 0))), ((u2 7), .inl (T.1, 60, .inl (fun _ => 0))), ((u2 8), .inl (T.1, 10, .inl (zfl [-1, -1, -1, -1, -1, -1, -1, -1, -1, -1]))), (q3, .inr (4, [.null, .int 0, .int 0, .int 0, .int 0, .null, .null, .null, .int 0, .null, .null, .int 0, .int 0, .int 0, .null, .int 0, .int 0, .null]))]) rfl ?_
  refine zc_dup hB rfl dX7_init_19 ?_
  refine zc_callI (X := fun _ => True) (st := [.ref q3, .ref h0]) (As := []) (wr := [(h0, .inr (5, [.ref q1, .null, .null, .int 0, .null, .null, .null, .null])), (q1, .inr (4, [.ref (u2 1), .int 3, .int 0, .int 0, .int 0, .ref (u2 2), .ref (u2 3), .ref (u2 4), .int 0, .ref (u2 5), .ref (u2 6), .int 0, .int 0, .int 0, .ref (u2 7), .int 0, .int 1, .ref (u2 8)])), ((u2 1), .inl (T.1, 8, .inl (zfl [2, 5, 10, 20, 40, 80, 160, 64]))), ((u2 2), .inl (T.1, 8, .inl (fun _ => 0))), ((u2 3), .inl (T.1, 8, .inl (fun _ => 0))), ((u2 4), .inl (T.1, 8, .inl (fun _ => 0))), ((u2 5), .inl (T.1, 4, .inl (fun _ => 0))), ((u2 6), .inl (T.1, 4, .inl (fun _ => 0))), ((u2 7), .inl (T.1, 60, .inl (fun _ => 0))), ((u2 8), .inl (T.1, 10, .inl (zfl [-1, -1, -1, -1, -1, -1, -1, -1, -1, -1])))]) (x := (q3, .inr (4, [.null, .int 0, .int 0, .int 0, .int 0, .null, .null, .null, .int 0, .null, .null, .int 0, .int 0, .int 0, .null, .int 0, .int 0, .null]))) hB rfl (fun _ _ _ _ _ => trivial) (fun _ _ _ _ _ _ _ => trivial) (mcX6_init (l := l) (D := D) (T := T) q3) lm_X7_11 q2_X6_init q4_X6 q5_X6_init rfl qd_X6_init (by decide) rfl rfl (Nat.le_of_ble_eq_true rfl) (by decide) dX7_init_20 (fun u4 => ?_)
  refine zc_cs (cells' := 18) (slots' := 256) rfl rfl ?_
  refine zc_ws (ws' := [(h0, .inr (5, [.ref q1, .null, .null, .int 0, .null, .null, .null, .null])), (q1, .inr (4, [.ref (u2 1), .int 3, .int 0, .int 0, .int 0, .ref (u2 2), .ref (u2 3), .ref (u2 4), .int 0, .ref (u2 5), .ref (u2 6), .int 0, .int 0, .int 0, .ref (u2 7), .int 0, .int 1, .ref (u2 8)])), ((u2 1), .inl (T.1, 8, .inl (zfl [2, 5, 10, 20, 40, 80, 160, 64]))), ((u2 2), .inl (T.1, 8, .inl (fun _ => 0))), ((u2 3), .inl (T.1, 8, .inl (fun _ => 0))), ((u2 4), .inl (T.1, 8, .inl (fun _ => 0))), ((u2 5), .inl (T.1, 4, .inl (fun _ => 0))), ((u2 6), .inl (T.1, 4, .inl (fun _ => 0))), ((u2 7), .inl (T.1, 60, .inl (fun _ => 0))), ((u2 8), .inl (T.1, 10, .inl (zfl [-1, -1, -1, -1, -1, -1, -1, -1, -1, -1]))), (q3, .inr (4, [.ref (u4 1), .int 3, .int 0, .int 0, .int 0, .ref (u4 2), .ref (u4 3), .ref (u4 4), .int 0, .ref (u4 5), .ref (u4 6), .int 0, .int 0, .int 0, .ref (u4 7), .int 0, .int 1, .ref (u4 8)])), ((u4 1), .inl (T.1, 8, .inl (zfl [2, 5, 10, 20, 40, 80, 160, 64]))), ((u4 2), .inl (T.1, 8, .inl (fun _ => 0))), ((u4 3), .inl (T.1, 8, .inl (fun _ => 0))), ((u4 4), .inl (T.1, 8, .inl (fun _ => 0))), ((u4 5), .inl (T.1, 4, .inl (fun _ => 0))), ((u4 6), .inl (T.1, 4, .inl (fun _ => 0))), ((u4 7), .inl (T.1, 60, .inl (fun _ => 0))), ((u4 8), .inl (T.1, 10, .inl (zfl [-1, -1, -1, -1, -1, -1, -1, -1, -1, -1])))]) rfl ?_
  refine zc_putF_X7 (q0 := 0) (k := 1) (ty := tyX7 1) hB hin rfl (by decide) rfl (tyX7_ok 1 (by decide)) rfl rfl rfl rfl rfl lf_X7_16 dX7_init_23 ?_
  refine zc_ws (ws' := [(h0, .inr (5, [.ref q1, .ref q3, .null, .int 0, .null, .null, .null, .null])), (q1, .inr (4, [.ref (u2 1), .int 3, .int 0, .int 0, .int 0, .ref (u2 2), .ref (u2 3), .ref (u2 4), .int 0, .ref (u2 5), .ref (u2 6), .int 0, .int 0, .int 0, .ref (u2 7), .int 0, .int 1, .ref (u2 8)])), ((u2 1), .inl (T.1, 8, .inl (zfl [2, 5, 10, 20, 40, 80, 160, 64]))), ((u2 2), .inl (T.1, 8, .inl (fun _ => 0))), ((u2 3), .inl (T.1, 8, .inl (fun _ => 0))), ((u2 4), .inl (T.1, 8, .inl (fun _ => 0))), ((u2 5), .inl (T.1, 4, .inl (fun _ => 0))), ((u2 6), .inl (T.1, 4, .inl (fun _ => 0))), ((u2 7), .inl (T.1, 60, .inl (fun _ => 0))), ((u2 8), .inl (T.1, 10, .inl (zfl [-1, -1, -1, -1, -1, -1, -1, -1, -1, -1]))), (q3, .inr (4, [.ref (u4 1), .int 3, .int 0, .int 0, .int 0, .ref (u4 2), .ref (u4 3), .ref (u4 4), .int 0, .ref (u4 5), .ref (u4 6), .int 0, .int 0, .int 0, .ref (u4 7), .int 0, .int 1, .ref (u4 8)])), ((u4 1), .inl (T.1, 8, .inl (zfl [2, 5, 10, 20, 40, 80, 160, 64]))), ((u4 2), .inl (T.1, 8, .inl (fun _ => 0))), ((u4 3), .inl (T.1, 8, .inl (fun _ => 0))), ((u4 4), .inl (T.1, 8, .inl (fun _ => 0))), ((u4 5), .inl (T.1, 4, .inl (fun _ => 0))), ((u4 6), .inl (T.1, 4, .inl (fun _ => 0))), ((u4 7), .inl (T.1, 60, .inl (fun _ => 0))), ((u4 8), .inl (T.1, 10, .inl (zfl [-1, -1, -1, -1, -1, -1, -1, -1, -1, -1])))]) rfl ?_
  refine zc_aload_n hB 0 rfl rfl dX7_init_26 ?_
  refine zc_new_X6 (fs := [.null, .int 0, .int 0, .int 0, .int 0, .null, .null, .null, .int 0, .null, .null, .int 0, .int 0, .int 0, .null, .int 0, .int 0, .null]) hB zfs_X6 lc_X7_9 li_X6 q4_X6 (by decide) (by decide) dX7_init_27 (fun q5 => ?_)
  refine zc_cs (cells' := 19) (slots' := 274) rfl rfl ?_
  refine zc_ws (ws' := [(h0, .inr (5, [.ref q1, .ref q3, .null, .int 0, .null, .null, .null, .null])), (q1, .inr (4, [.ref (u2 1), .int 3, .int 0, .int 0, .int 0, .ref (u2 2), .ref (u2 3), .ref (u2 4), .int 0, .ref (u2 5), .ref (u2 6), .int 0, .int 0, .int 0, .ref (u2 7), .int 0, .int 1, .ref (u2 8)])), ((u2 1), .inl (T.1, 8, .inl (zfl [2, 5, 10, 20, 40, 80, 160, 64]))), ((u2 2), .inl (T.1, 8, .inl (fun _ => 0))), ((u2 3), .inl (T.1, 8, .inl (fun _ => 0))), ((u2 4), .inl (T.1, 8, .inl (fun _ => 0))), ((u2 5), .inl (T.1, 4, .inl (fun _ => 0))), ((u2 6), .inl (T.1, 4, .inl (fun _ => 0))), ((u2 7), .inl (T.1, 60, .inl (fun _ => 0))), ((u2 8), .inl (T.1, 10, .inl (zfl [-1, -1, -1, -1, -1, -1, -1, -1, -1, -1]))), (q3, .inr (4, [.ref (u4 1), .int 3, .int 0, .int 0, .int 0, .ref (u4 2), .ref (u4 3), .ref (u4 4), .int 0, .ref (u4 5), .ref (u4 6), .int 0, .int 0, .int 0, .ref (u4 7), .int 0, .int 1, .ref (u4 8)])), ((u4 1), .inl (T.1, 8, .inl (zfl [2, 5, 10, 20, 40, 80, 160, 64]))), ((u4 2), .inl (T.1, 8, .inl (fun _ => 0))), ((u4 3), .inl (T.1, 8, .inl (fun _ => 0))), ((u4 4), .inl (T.1, 8, .inl (fun _ => 0))), ((u4 5), .inl (T.1, 4, .inl (fun _ => 0))), ((u4 6), .inl (T.1, 4, .inl (fun _ => 0))), ((u4 7), .inl (T.1, 60, .inl (fun _ => 0))), ((u4 8), .inl (T.1, 10, .inl (zfl [-1, -1, -1, -1, -1, -1, -1, -1, -1, -1]))), (q5, .inr (4, [.null, .int 0, .int 0, .int 0, .int 0, .null, .null, .null, .int 0, .null, .null, .int 0, .int 0, .int 0, .null, .int 0, .int 0, .null]))]) rfl ?_
  refine zc_dup hB rfl dX7_init_30 ?_
  refine zc_callI (X := fun _ => True) (st := [.ref q5, .ref h0]) (As := []) (wr := [(h0, .inr (5, [.ref q1, .ref q3, .null, .int 0, .null, .null, .null, .null])), (q1, .inr (4, [.ref (u2 1), .int 3, .int 0, .int 0, .int 0, .ref (u2 2), .ref (u2 3), .ref (u2 4), .int 0, .ref (u2 5), .ref (u2 6), .int 0, .int 0, .int 0, .ref (u2 7), .int 0, .int 1, .ref (u2 8)])), ((u2 1), .inl (T.1, 8, .inl (zfl [2, 5, 10, 20, 40, 80, 160, 64]))), ((u2 2), .inl (T.1, 8, .inl (fun _ => 0))), ((u2 3), .inl (T.1, 8, .inl (fun _ => 0))), ((u2 4), .inl (T.1, 8, .inl (fun _ => 0))), ((u2 5), .inl (T.1, 4, .inl (fun _ => 0))), ((u2 6), .inl (T.1, 4, .inl (fun _ => 0))), ((u2 7), .inl (T.1, 60, .inl (fun _ => 0))), ((u2 8), .inl (T.1, 10, .inl (zfl [-1, -1, -1, -1, -1, -1, -1, -1, -1, -1]))), (q3, .inr (4, [.ref (u4 1), .int 3, .int 0, .int 0, .int 0, .ref (u4 2), .ref (u4 3), .ref (u4 4), .int 0, .ref (u4 5), .ref (u4 6), .int 0, .int 0, .int 0, .ref (u4 7), .int 0, .int 1, .ref (u4 8)])), ((u4 1), .inl (T.1, 8, .inl (zfl [2, 5, 10, 20, 40, 80, 160, 64]))), ((u4 2), .inl (T.1, 8, .inl (fun _ => 0))), ((u4 3), .inl (T.1, 8, .inl (fun _ => 0))), ((u4 4), .inl (T.1, 8, .inl (fun _ => 0))), ((u4 5), .inl (T.1, 4, .inl (fun _ => 0))), ((u4 6), .inl (T.1, 4, .inl (fun _ => 0))), ((u4 7), .inl (T.1, 60, .inl (fun _ => 0))), ((u4 8), .inl (T.1, 10, .inl (zfl [-1, -1, -1, -1, -1, -1, -1, -1, -1, -1])))]) (x := (q5, .inr (4, [.null, .int 0, .int 0, .int 0, .int 0, .null, .null, .null, .int 0, .null, .null, .int 0, .int 0, .int 0, .null, .int 0, .int 0, .null]))) hB rfl (fun _ _ _ _ _ => trivial) (fun _ _ _ _ _ _ _ => trivial) (mcX6_init (l := l) (D := D) (T := T) q5) lm_X7_11 q2_X6_init q4_X6 q5_X6_init rfl qd_X6_init (by decide) rfl rfl (Nat.le_of_ble_eq_true rfl) (by decide) dX7_init_31 (fun u6 => ?_)
  refine zc_cs (cells' := 27) (slots' := 384) rfl rfl ?_
  refine zc_ws (ws' := [(h0, .inr (5, [.ref q1, .ref q3, .null, .int 0, .null, .null, .null, .null])), (q1, .inr (4, [.ref (u2 1), .int 3, .int 0, .int 0, .int 0, .ref (u2 2), .ref (u2 3), .ref (u2 4), .int 0, .ref (u2 5), .ref (u2 6), .int 0, .int 0, .int 0, .ref (u2 7), .int 0, .int 1, .ref (u2 8)])), ((u2 1), .inl (T.1, 8, .inl (zfl [2, 5, 10, 20, 40, 80, 160, 64]))), ((u2 2), .inl (T.1, 8, .inl (fun _ => 0))), ((u2 3), .inl (T.1, 8, .inl (fun _ => 0))), ((u2 4), .inl (T.1, 8, .inl (fun _ => 0))), ((u2 5), .inl (T.1, 4, .inl (fun _ => 0))), ((u2 6), .inl (T.1, 4, .inl (fun _ => 0))), ((u2 7), .inl (T.1, 60, .inl (fun _ => 0))), ((u2 8), .inl (T.1, 10, .inl (zfl [-1, -1, -1, -1, -1, -1, -1, -1, -1, -1]))), (q3, .inr (4, [.ref (u4 1), .int 3, .int 0, .int 0, .int 0, .ref (u4 2), .ref (u4 3), .ref (u4 4), .int 0, .ref (u4 5), .ref (u4 6), .int 0, .int 0, .int 0, .ref (u4 7), .int 0, .int 1, .ref (u4 8)])), ((u4 1), .inl (T.1, 8, .inl (zfl [2, 5, 10, 20, 40, 80, 160, 64]))), ((u4 2), .inl (T.1, 8, .inl (fun _ => 0))), ((u4 3), .inl (T.1, 8, .inl (fun _ => 0))), ((u4 4), .inl (T.1, 8, .inl (fun _ => 0))), ((u4 5), .inl (T.1, 4, .inl (fun _ => 0))), ((u4 6), .inl (T.1, 4, .inl (fun _ => 0))), ((u4 7), .inl (T.1, 60, .inl (fun _ => 0))), ((u4 8), .inl (T.1, 10, .inl (zfl [-1, -1, -1, -1, -1, -1, -1, -1, -1, -1]))), (q5, .inr (4, [.ref (u6 1), .int 3, .int 0, .int 0, .int 0, .ref (u6 2), .ref (u6 3), .ref (u6 4), .int 0, .ref (u6 5), .ref (u6 6), .int 0, .int 0, .int 0, .ref (u6 7), .int 0, .int 1, .ref (u6 8)])), ((u6 1), .inl (T.1, 8, .inl (zfl [2, 5, 10, 20, 40, 80, 160, 64]))), ((u6 2), .inl (T.1, 8, .inl (fun _ => 0))), ((u6 3), .inl (T.1, 8, .inl (fun _ => 0))), ((u6 4), .inl (T.1, 8, .inl (fun _ => 0))), ((u6 5), .inl (T.1, 4, .inl (fun _ => 0))), ((u6 6), .inl (T.1, 4, .inl (fun _ => 0))), ((u6 7), .inl (T.1, 60, .inl (fun _ => 0))), ((u6 8), .inl (T.1, 10, .inl (zfl [-1, -1, -1, -1, -1, -1, -1, -1, -1, -1])))]) rfl ?_
  refine zc_putF_X7 (q0 := 0) (k := 2) (ty := tyX7 2) hB hin rfl (by decide) rfl (tyX7_ok 2 (by decide)) rfl rfl rfl rfl rfl lf_X7_19 dX7_init_34 ?_
  refine zc_ws (ws' := [(h0, .inr (5, [.ref q1, .ref q3, .ref q5, .int 0, .null, .null, .null, .null])), (q1, .inr (4, [.ref (u2 1), .int 3, .int 0, .int 0, .int 0, .ref (u2 2), .ref (u2 3), .ref (u2 4), .int 0, .ref (u2 5), .ref (u2 6), .int 0, .int 0, .int 0, .ref (u2 7), .int 0, .int 1, .ref (u2 8)])), ((u2 1), .inl (T.1, 8, .inl (zfl [2, 5, 10, 20, 40, 80, 160, 64]))), ((u2 2), .inl (T.1, 8, .inl (fun _ => 0))), ((u2 3), .inl (T.1, 8, .inl (fun _ => 0))), ((u2 4), .inl (T.1, 8, .inl (fun _ => 0))), ((u2 5), .inl (T.1, 4, .inl (fun _ => 0))), ((u2 6), .inl (T.1, 4, .inl (fun _ => 0))), ((u2 7), .inl (T.1, 60, .inl (fun _ => 0))), ((u2 8), .inl (T.1, 10, .inl (zfl [-1, -1, -1, -1, -1, -1, -1, -1, -1, -1]))), (q3, .inr (4, [.ref (u4 1), .int 3, .int 0, .int 0, .int 0, .ref (u4 2), .ref (u4 3), .ref (u4 4), .int 0, .ref (u4 5), .ref (u4 6), .int 0, .int 0, .int 0, .ref (u4 7), .int 0, .int 1, .ref (u4 8)])), ((u4 1), .inl (T.1, 8, .inl (zfl [2, 5, 10, 20, 40, 80, 160, 64]))), ((u4 2), .inl (T.1, 8, .inl (fun _ => 0))), ((u4 3), .inl (T.1, 8, .inl (fun _ => 0))), ((u4 4), .inl (T.1, 8, .inl (fun _ => 0))), ((u4 5), .inl (T.1, 4, .inl (fun _ => 0))), ((u4 6), .inl (T.1, 4, .inl (fun _ => 0))), ((u4 7), .inl (T.1, 60, .inl (fun _ => 0))), ((u4 8), .inl (T.1, 10, .inl (zfl [-1, -1, -1, -1, -1, -1, -1, -1, -1, -1]))), (q5, .inr (4, [.ref (u6 1), .int 3, .int 0, .int 0, .int 0, .ref (u6 2), .ref (u6 3), .ref (u6 4), .int 0, .ref (u6 5), .ref (u6 6), .int 0, .int 0, .int 0, .ref (u6 7), .int 0, .int 1, .ref (u6 8)])), ((u6 1), .inl (T.1, 8, .inl (zfl [2, 5, 10, 20, 40, 80, 160, 64]))), ((u6 2), .inl (T.1, 8, .inl (fun _ => 0))), ((u6 3), .inl (T.1, 8, .inl (fun _ => 0))), ((u6 4), .inl (T.1, 8, .inl (fun _ => 0))), ((u6 5), .inl (T.1, 4, .inl (fun _ => 0))), ((u6 6), .inl (T.1, 4, .inl (fun _ => 0))), ((u6 7), .inl (T.1, 60, .inl (fun _ => 0))), ((u6 8), .inl (T.1, 10, .inl (zfl [-1, -1, -1, -1, -1, -1, -1, -1, -1, -1])))]) rfl ?_
  refine zc_aload_n hB 0 rfl rfl dX7_init_37 ?_
  refine zc_new_X1 (fs := [.null, .null, .null, .null]) hB zfs_X1 lc_X7_22 li_X1 q4_X1 (by decide) (by decide) dX7_init_38 (fun q7 => ?_)
  refine zc_cs (cells' := 28) (slots' := 388) rfl rfl ?_
  refine zc_ws (ws' := [(h0, .inr (5, [.ref q1, .ref q3, .ref q5, .int 0, .null, .null, .null, .null])), (q1, .inr (4, [.ref (u2 1), .int 3, .int 0, .int 0, .int 0, .ref (u2 2), .ref (u2 3), .ref (u2 4), .int 0, .ref (u2 5), .ref (u2 6), .int 0, .int 0, .int 0, .ref (u2 7), .int 0, .int 1, .ref (u2 8)])), ((u2 1), .inl (T.1, 8, .inl (zfl [2, 5, 10, 20, 40, 80, 160, 64]))), ((u2 2), .inl (T.1, 8, .inl (fun _ => 0))), ((u2 3), .inl (T.1, 8, .inl (fun _ => 0))), ((u2 4), .inl (T.1, 8, .inl (fun _ => 0))), ((u2 5), .inl (T.1, 4, .inl (fun _ => 0))), ((u2 6), .inl (T.1, 4, .inl (fun _ => 0))), ((u2 7), .inl (T.1, 60, .inl (fun _ => 0))), ((u2 8), .inl (T.1, 10, .inl (zfl [-1, -1, -1, -1, -1, -1, -1, -1, -1, -1]))), (q3, .inr (4, [.ref (u4 1), .int 3, .int 0, .int 0, .int 0, .ref (u4 2), .ref (u4 3), .ref (u4 4), .int 0, .ref (u4 5), .ref (u4 6), .int 0, .int 0, .int 0, .ref (u4 7), .int 0, .int 1, .ref (u4 8)])), ((u4 1), .inl (T.1, 8, .inl (zfl [2, 5, 10, 20, 40, 80, 160, 64]))), ((u4 2), .inl (T.1, 8, .inl (fun _ => 0))), ((u4 3), .inl (T.1, 8, .inl (fun _ => 0))), ((u4 4), .inl (T.1, 8, .inl (fun _ => 0))), ((u4 5), .inl (T.1, 4, .inl (fun _ => 0))), ((u4 6), .inl (T.1, 4, .inl (fun _ => 0))), ((u4 7), .inl (T.1, 60, .inl (fun _ => 0))), ((u4 8), .inl (T.1, 10, .inl (zfl [-1, -1, -1, -1, -1, -1, -1, -1, -1, -1]))), (q5, .inr (4, [.ref (u6 1), .int 3, .int 0, .int 0, .int 0, .ref (u6 2), .ref (u6 3), .ref (u6 4), .int 0, .ref (u6 5), .ref (u6 6), .int 0, .int 0, .int 0, .ref (u6 7), .int 0, .int 1, .ref (u6 8)])), ((u6 1), .inl (T.1, 8, .inl (zfl [2, 5, 10, 20, 40, 80, 160, 64]))), ((u6 2), .inl (T.1, 8, .inl (fun _ => 0))), ((u6 3), .inl (T.1, 8, .inl (fun _ => 0))), ((u6 4), .inl (T.1, 8, .inl (fun _ => 0))), ((u6 5), .inl (T.1, 4, .inl (fun _ => 0))), ((u6 6), .inl (T.1, 4, .inl (fun _ => 0))), ((u6 7), .inl (T.1, 60, .inl (fun _ => 0))), ((u6 8), .inl (T.1, 10, .inl (zfl [-1, -1, -1, -1, -1, -1, -1, -1, -1, -1]))), (q7, .inr (0, [.null, .null, .null, .null]))]) rfl ?_
  refine zc_dup hB rfl dX7_init_41 ?_
  refine zc_callN (host := RX7) (X := fun _ => True) (st := [.ref q7, .ref h0]) (As := []) (wr := [(h0, .inr (5, [.ref q1, .ref q3, .ref q5, .int 0, .null, .null, .null, .null])), (q1, .inr (4, [.ref (u2 1), .int 3, .int 0, .int 0, .int 0, .ref (u2 2), .ref (u2 3), .ref (u2 4), .int 0, .ref (u2 5), .ref (u2 6), .int 0, .int 0, .int 0, .ref (u2 7), .int 0, .int 1, .ref (u2 8)])), ((u2 1), .inl (T.1, 8, .inl (zfl [2, 5, 10, 20, 40, 80, 160, 64]))), ((u2 2), .inl (T.1, 8, .inl (fun _ => 0))), ((u2 3), .inl (T.1, 8, .inl (fun _ => 0))), ((u2 4), .inl (T.1, 8, .inl (fun _ => 0))), ((u2 5), .inl (T.1, 4, .inl (fun _ => 0))), ((u2 6), .inl (T.1, 4, .inl (fun _ => 0))), ((u2 7), .inl (T.1, 60, .inl (fun _ => 0))), ((u2 8), .inl (T.1, 10, .inl (zfl [-1, -1, -1, -1, -1, -1, -1, -1, -1, -1]))), (q3, .inr (4, [.ref (u4 1), .int 3, .int 0, .int 0, .int 0, .ref (u4 2), .ref (u4 3), .ref (u4 4), .int 0, .ref (u4 5), .ref (u4 6), .int 0, .int 0, .int 0, .ref (u4 7), .int 0, .int 1, .ref (u4 8)])), ((u4 1), .inl (T.1, 8, .inl (zfl [2, 5, 10, 20, 40, 80, 160, 64]))), ((u4 2), .inl (T.1, 8, .inl (fun _ => 0))), ((u4 3), .inl (T.1, 8, .inl (fun _ => 0))), ((u4 4), .inl (T.1, 8, .inl (fun _ => 0))), ((u4 5), .inl (T.1, 4, .inl (fun _ => 0))), ((u4 6), .inl (T.1, 4, .inl (fun _ => 0))), ((u4 7), .inl (T.1, 60, .inl (fun _ => 0))), ((u4 8), .inl (T.1, 10, .inl (zfl [-1, -1, -1, -1, -1, -1, -1, -1, -1, -1]))), (q5, .inr (4, [.ref (u6 1), .int 3, .int 0, .int 0, .int 0, .ref (u6 2), .ref (u6 3), .ref (u6 4), .int 0, .ref (u6 5), .ref (u6 6), .int 0, .int 0, .int 0, .ref (u6 7), .int 0, .int 1, .ref (u6 8)])), ((u6 1), .inl (T.1, 8, .inl (zfl [2, 5, 10, 20, 40, 80, 160, 64]))), ((u6 2), .inl (T.1, 8, .inl (fun _ => 0))), ((u6 3), .inl (T.1, 8, .inl (fun _ => 0))), ((u6 4), .inl (T.1, 8, .inl (fun _ => 0))), ((u6 5), .inl (T.1, 4, .inl (fun _ => 0))), ((u6 6), .inl (T.1, 4, .inl (fun _ => 0))), ((u6 7), .inl (T.1, 60, .inl (fun _ => 0))), ((u6 8), .inl (T.1, 10, .inl (zfl [-1, -1, -1, -1, -1, -1, -1, -1, -1, -1])))]) (x := (q7, .inr (0, [.null, .null, .null, .null]))) hB rfl (fun _ _ _ _ _ => trivial) (fun _ _ _ _ _ _ _ => trivial) (mcX1_init (l := l) (D := D) (T := T) q7) hN.1 q2_X1_init q4_X1 q5_X1_init rfl qd_X1_init (by decide) rfl rfl (Nat.le_of_ble_eq_true rfl) (by decide) dX7_init_42 (fun u8 => ?_)
  refine zc_cs (cells' := 32) (slots' := 420) rfl rfl ?_
  refine zc_ws (ws' := [(h0, .inr (5, [.ref q1, .ref q3, .ref q5, .int 0, .null, .null, .null, .null])), (q1, .inr (4, [.ref (u2 1), .int 3, .int 0, .int 0, .int 0, .ref (u2 2), .ref (u2 3), .ref (u2 4), .int 0, .ref (u2 5), .ref (u2 6), .int 0, .int 0, .int 0, .ref (u2 7), .int 0, .int 1, .ref (u2 8)])), ((u2 1), .inl (T.1, 8, .inl (zfl [2, 5, 10, 20, 40, 80, 160, 64]))), ((u2 2), .inl (T.1, 8, .inl (fun _ => 0))), ((u2 3), .inl (T.1, 8, .inl (fun _ => 0))), ((u2 4), .inl (T.1, 8, .inl (fun _ => 0))), ((u2 5), .inl (T.1, 4, .inl (fun _ => 0))), ((u2 6), .inl (T.1, 4, .inl (fun _ => 0))), ((u2 7), .inl (T.1, 60, .inl (fun _ => 0))), ((u2 8), .inl (T.1, 10, .inl (zfl [-1, -1, -1, -1, -1, -1, -1, -1, -1, -1]))), (q3, .inr (4, [.ref (u4 1), .int 3, .int 0, .int 0, .int 0, .ref (u4 2), .ref (u4 3), .ref (u4 4), .int 0, .ref (u4 5), .ref (u4 6), .int 0, .int 0, .int 0, .ref (u4 7), .int 0, .int 1, .ref (u4 8)])), ((u4 1), .inl (T.1, 8, .inl (zfl [2, 5, 10, 20, 40, 80, 160, 64]))), ((u4 2), .inl (T.1, 8, .inl (fun _ => 0))), ((u4 3), .inl (T.1, 8, .inl (fun _ => 0))), ((u4 4), .inl (T.1, 8, .inl (fun _ => 0))), ((u4 5), .inl (T.1, 4, .inl (fun _ => 0))), ((u4 6), .inl (T.1, 4, .inl (fun _ => 0))), ((u4 7), .inl (T.1, 60, .inl (fun _ => 0))), ((u4 8), .inl (T.1, 10, .inl (zfl [-1, -1, -1, -1, -1, -1, -1, -1, -1, -1]))), (q5, .inr (4, [.ref (u6 1), .int 3, .int 0, .int 0, .int 0, .ref (u6 2), .ref (u6 3), .ref (u6 4), .int 0, .ref (u6 5), .ref (u6 6), .int 0, .int 0, .int 0, .ref (u6 7), .int 0, .int 1, .ref (u6 8)])), ((u6 1), .inl (T.1, 8, .inl (zfl [2, 5, 10, 20, 40, 80, 160, 64]))), ((u6 2), .inl (T.1, 8, .inl (fun _ => 0))), ((u6 3), .inl (T.1, 8, .inl (fun _ => 0))), ((u6 4), .inl (T.1, 8, .inl (fun _ => 0))), ((u6 5), .inl (T.1, 4, .inl (fun _ => 0))), ((u6 6), .inl (T.1, 4, .inl (fun _ => 0))), ((u6 7), .inl (T.1, 60, .inl (fun _ => 0))), ((u6 8), .inl (T.1, 10, .inl (zfl [-1, -1, -1, -1, -1, -1, -1, -1, -1, -1]))), (q7, .inr (0, [.ref (u8 1), .ref (u8 2), .ref (u8 3), .ref (u8 4)])), ((u8 1), .inl (T.2.1, 8, .inr (.inl (fun _ => 0)))), ((u8 2), .inl (T.2.1, 8, .inr (.inl (fun _ => 0)))), ((u8 3), .inl (T.2.1, 8, .inr (.inl (fun _ => 0)))), ((u8 4), .inl (T.1, 8, .inl (fun _ => 0)))]) rfl ?_
  refine zc_putF_X7 (q0 := 0) (k := 4) (ty := tyX7 4) hB hin rfl (by decide) rfl (tyX7_ok 4 (by decide)) rfl rfl rfl rfl rfl lf_X7_25 dX7_init_45 ?_
  refine zc_ws (ws' := [(h0, .inr (5, [.ref q1, .ref q3, .ref q5, .int 0, .ref q7, .null, .null, .null])), (q1, .inr (4, [.ref (u2 1), .int 3, .int 0, .int 0, .int 0, .ref (u2 2), .ref (u2 3), .ref (u2 4), .int 0, .ref (u2 5), .ref (u2 6), .int 0, .int 0, .int 0, .ref (u2 7), .int 0, .int 1, .ref (u2 8)])), ((u2 1), .inl (T.1, 8, .inl (zfl [2, 5, 10, 20, 40, 80, 160, 64]))), ((u2 2), .inl (T.1, 8, .inl (fun _ => 0))), ((u2 3), .inl (T.1, 8, .inl (fun _ => 0))), ((u2 4), .inl (T.1, 8, .inl (fun _ => 0))), ((u2 5), .inl (T.1, 4, .inl (fun _ => 0))), ((u2 6), .inl (T.1, 4, .inl (fun _ => 0))), ((u2 7), .inl (T.1, 60, .inl (fun _ => 0))), ((u2 8), .inl (T.1, 10, .inl (zfl [-1, -1, -1, -1, -1, -1, -1, -1, -1, -1]))), (q3, .inr (4, [.ref (u4 1), .int 3, .int 0, .int 0, .int 0, .ref (u4 2), .ref (u4 3), .ref (u4 4), .int 0, .ref (u4 5), .ref (u4 6), .int 0, .int 0, .int 0, .ref (u4 7), .int 0, .int 1, .ref (u4 8)])), ((u4 1), .inl (T.1, 8, .inl (zfl [2, 5, 10, 20, 40, 80, 160, 64]))), ((u4 2), .inl (T.1, 8, .inl (fun _ => 0))), ((u4 3), .inl (T.1, 8, .inl (fun _ => 0))), ((u4 4), .inl (T.1, 8, .inl (fun _ => 0))), ((u4 5), .inl (T.1, 4, .inl (fun _ => 0))), ((u4 6), .inl (T.1, 4, .inl (fun _ => 0))), ((u4 7), .inl (T.1, 60, .inl (fun _ => 0))), ((u4 8), .inl (T.1, 10, .inl (zfl [-1, -1, -1, -1, -1, -1, -1, -1, -1, -1]))), (q5, .inr (4, [.ref (u6 1), .int 3, .int 0, .int 0, .int 0, .ref (u6 2), .ref (u6 3), .ref (u6 4), .int 0, .ref (u6 5), .ref (u6 6), .int 0, .int 0, .int 0, .ref (u6 7), .int 0, .int 1, .ref (u6 8)])), ((u6 1), .inl (T.1, 8, .inl (zfl [2, 5, 10, 20, 40, 80, 160, 64]))), ((u6 2), .inl (T.1, 8, .inl (fun _ => 0))), ((u6 3), .inl (T.1, 8, .inl (fun _ => 0))), ((u6 4), .inl (T.1, 8, .inl (fun _ => 0))), ((u6 5), .inl (T.1, 4, .inl (fun _ => 0))), ((u6 6), .inl (T.1, 4, .inl (fun _ => 0))), ((u6 7), .inl (T.1, 60, .inl (fun _ => 0))), ((u6 8), .inl (T.1, 10, .inl (zfl [-1, -1, -1, -1, -1, -1, -1, -1, -1, -1]))), (q7, .inr (0, [.ref (u8 1), .ref (u8 2), .ref (u8 3), .ref (u8 4)])), ((u8 1), .inl (T.2.1, 8, .inr (.inl (fun _ => 0)))), ((u8 2), .inl (T.2.1, 8, .inr (.inl (fun _ => 0)))), ((u8 3), .inl (T.2.1, 8, .inr (.inl (fun _ => 0)))), ((u8 4), .inl (T.1, 8, .inl (fun _ => 0)))]) rfl ?_
  refine zc_aload_n hB 0 rfl rfl dX7_init_48 ?_
  refine zc_new_X4 (fs := [.null, .null, .int 0, .int 0, .int 0, .int 0, .int 0]) hB zfs_X4 lc_X7_29 li_X4 q4_X4 (by decide) (by decide) dX7_init_49 (fun q9 => ?_)
  refine zc_cs (cells' := 33) (slots' := 427) rfl rfl ?_
  refine zc_ws (ws' := [(h0, .inr (5, [.ref q1, .ref q3, .ref q5, .int 0, .ref q7, .null, .null, .null])), (q1, .inr (4, [.ref (u2 1), .int 3, .int 0, .int 0, .int 0, .ref (u2 2), .ref (u2 3), .ref (u2 4), .int 0, .ref (u2 5), .ref (u2 6), .int 0, .int 0, .int 0, .ref (u2 7), .int 0, .int 1, .ref (u2 8)])), ((u2 1), .inl (T.1, 8, .inl (zfl [2, 5, 10, 20, 40, 80, 160, 64]))), ((u2 2), .inl (T.1, 8, .inl (fun _ => 0))), ((u2 3), .inl (T.1, 8, .inl (fun _ => 0))), ((u2 4), .inl (T.1, 8, .inl (fun _ => 0))), ((u2 5), .inl (T.1, 4, .inl (fun _ => 0))), ((u2 6), .inl (T.1, 4, .inl (fun _ => 0))), ((u2 7), .inl (T.1, 60, .inl (fun _ => 0))), ((u2 8), .inl (T.1, 10, .inl (zfl [-1, -1, -1, -1, -1, -1, -1, -1, -1, -1]))), (q3, .inr (4, [.ref (u4 1), .int 3, .int 0, .int 0, .int 0, .ref (u4 2), .ref (u4 3), .ref (u4 4), .int 0, .ref (u4 5), .ref (u4 6), .int 0, .int 0, .int 0, .ref (u4 7), .int 0, .int 1, .ref (u4 8)])), ((u4 1), .inl (T.1, 8, .inl (zfl [2, 5, 10, 20, 40, 80, 160, 64]))), ((u4 2), .inl (T.1, 8, .inl (fun _ => 0))), ((u4 3), .inl (T.1, 8, .inl (fun _ => 0))), ((u4 4), .inl (T.1, 8, .inl (fun _ => 0))), ((u4 5), .inl (T.1, 4, .inl (fun _ => 0))), ((u4 6), .inl (T.1, 4, .inl (fun _ => 0))), ((u4 7), .inl (T.1, 60, .inl (fun _ => 0))), ((u4 8), .inl (T.1, 10, .inl (zfl [-1, -1, -1, -1, -1, -1, -1, -1, -1, -1]))), (q5, .inr (4, [.ref (u6 1), .int 3, .int 0, .int 0, .int 0, .ref (u6 2), .ref (u6 3), .ref (u6 4), .int 0, .ref (u6 5), .ref (u6 6), .int 0, .int 0, .int 0, .ref (u6 7), .int 0, .int 1, .ref (u6 8)])), ((u6 1), .inl (T.1, 8, .inl (zfl [2, 5, 10, 20, 40, 80, 160, 64]))), ((u6 2), .inl (T.1, 8, .inl (fun _ => 0))), ((u6 3), .inl (T.1, 8, .inl (fun _ => 0))), ((u6 4), .inl (T.1, 8, .inl (fun _ => 0))), ((u6 5), .inl (T.1, 4, .inl (fun _ => 0))), ((u6 6), .inl (T.1, 4, .inl (fun _ => 0))), ((u6 7), .inl (T.1, 60, .inl (fun _ => 0))), ((u6 8), .inl (T.1, 10, .inl (zfl [-1, -1, -1, -1, -1, -1, -1, -1, -1, -1]))), (q7, .inr (0, [.ref (u8 1), .ref (u8 2), .ref (u8 3), .ref (u8 4)])), ((u8 1), .inl (T.2.1, 8, .inr (.inl (fun _ => 0)))), ((u8 2), .inl (T.2.1, 8, .inr (.inl (fun _ => 0)))), ((u8 3), .inl (T.2.1, 8, .inr (.inl (fun _ => 0)))), ((u8 4), .inl (T.1, 8, .inl (fun _ => 0))), (q9, .inr (3, [.null, .null, .int 0, .int 0, .int 0, .int 0, .int 0]))]) rfl ?_
  refine zc_dup hB rfl dX7_init_52 ?_
  refine zc_callN (host := RX7) (X := zN4) (st := [.ref q9, .ref h0]) (As := []) (wr := [(h0, .inr (5, [.ref q1, .ref q3, .ref q5, .int 0, .ref q7, .null, .null, .null])), (q1, .inr (4, [.ref (u2 1), .int 3, .int 0, .int 0, .int 0, .ref (u2 2), .ref (u2 3), .ref (u2 4), .int 0, .ref (u2 5), .ref (u2 6), .int 0, .int 0, .int 0, .ref (u2 7), .int 0, .int 1, .ref (u2 8)])), ((u2 1), .inl (T.1, 8, .inl (zfl [2, 5, 10, 20, 40, 80, 160, 64]))), ((u2 2), .inl (T.1, 8, .inl (fun _ => 0))), ((u2 3), .inl (T.1, 8, .inl (fun _ => 0))), ((u2 4), .inl (T.1, 8, .inl (fun _ => 0))), ((u2 5), .inl (T.1, 4, .inl (fun _ => 0))), ((u2 6), .inl (T.1, 4, .inl (fun _ => 0))), ((u2 7), .inl (T.1, 60, .inl (fun _ => 0))), ((u2 8), .inl (T.1, 10, .inl (zfl [-1, -1, -1, -1, -1, -1, -1, -1, -1, -1]))), (q3, .inr (4, [.ref (u4 1), .int 3, .int 0, .int 0, .int 0, .ref (u4 2), .ref (u4 3), .ref (u4 4), .int 0, .ref (u4 5), .ref (u4 6), .int 0, .int 0, .int 0, .ref (u4 7), .int 0, .int 1, .ref (u4 8)])), ((u4 1), .inl (T.1, 8, .inl (zfl [2, 5, 10, 20, 40, 80, 160, 64]))), ((u4 2), .inl (T.1, 8, .inl (fun _ => 0))), ((u4 3), .inl (T.1, 8, .inl (fun _ => 0))), ((u4 4), .inl (T.1, 8, .inl (fun _ => 0))), ((u4 5), .inl (T.1, 4, .inl (fun _ => 0))), ((u4 6), .inl (T.1, 4, .inl (fun _ => 0))), ((u4 7), .inl (T.1, 60, .inl (fun _ => 0))), ((u4 8), .inl (T.1, 10, .inl (zfl [-1, -1, -1, -1, -1, -1, -1, -1, -1, -1]))), (q5, .inr (4, [.ref (u6 1), .int 3, .int 0, .int 0, .int 0, .ref (u6 2), .ref (u6 3), .ref (u6 4), .int 0, .ref (u6 5), .ref (u6 6), .int 0, .int 0, .int 0, .ref (u6 7), .int 0, .int 1, .ref (u6 8)])), ((u6 1), .inl (T.1, 8, .inl (zfl [2, 5, 10, 20, 40, 80, 160, 64]))), ((u6 2), .inl (T.1, 8, .inl (fun _ => 0))), ((u6 3), .inl (T.1, 8, .inl (fun _ => 0))), ((u6 4), .inl (T.1, 8, .inl (fun _ => 0))), ((u6 5), .inl (T.1, 4, .inl (fun _ => 0))), ((u6 6), .inl (T.1, 4, .inl (fun _ => 0))), ((u6 7), .inl (T.1, 60, .inl (fun _ => 0))), ((u6 8), .inl (T.1, 10, .inl (zfl [-1, -1, -1, -1, -1, -1, -1, -1, -1, -1]))), (q7, .inr (0, [.ref (u8 1), .ref (u8 2), .ref (u8 3), .ref (u8 4)])), ((u8 1), .inl (T.2.1, 8, .inr (.inl (fun _ => 0)))), ((u8 2), .inl (T.2.1, 8, .inr (.inl (fun _ => 0)))), ((u8 3), .inl (T.2.1, 8, .inr (.inl (fun _ => 0)))), ((u8 4), .inl (T.1, 8, .inl (fun _ => 0)))]) (x := (q9, .inr (3, [.null, .null, .int 0, .int 0, .int 0, .int 0, .int 0]))) hB rfl (fun _ _ _ _ h => va_Nw.same rfl rfl h) (fun _ _ _ _ _ _ hW => hN.2.2.2.2.warmM hW) (mcX4_init (l := l) (D := D) (T := T) q9) hN.2.1 q2_X4_init q4_X4 q5_X4_init rfl qd_X4_init (by decide) rfl rfl (Nat.le_of_ble_eq_true rfl) (by decide) dX7_init_53 (fun u10 => ?_)
  refine zc_cs (cells' := 39) (slots' := 1033) rfl rfl ?_
  refine zc_ws (ws' := [(h0, .inr (5, [.ref q1, .ref q3, .ref q5, .int 0, .ref q7, .null, .null, .null])), (q1, .inr (4, [.ref (u2 1), .int 3, .int 0, .int 0, .int 0, .ref (u2 2), .ref (u2 3), .ref (u2 4), .int 0, .ref (u2 5), .ref (u2 6), .int 0, .int 0, .int 0, .ref (u2 7), .int 0, .int 1, .ref (u2 8)])), ((u2 1), .inl (T.1, 8, .inl (zfl [2, 5, 10, 20, 40, 80, 160, 64]))), ((u2 2), .inl (T.1, 8, .inl (fun _ => 0))), ((u2 3), .inl (T.1, 8, .inl (fun _ => 0))), ((u2 4), .inl (T.1, 8, .inl (fun _ => 0))), ((u2 5), .inl (T.1, 4, .inl (fun _ => 0))), ((u2 6), .inl (T.1, 4, .inl (fun _ => 0))), ((u2 7), .inl (T.1, 60, .inl (fun _ => 0))), ((u2 8), .inl (T.1, 10, .inl (zfl [-1, -1, -1, -1, -1, -1, -1, -1, -1, -1]))), (q3, .inr (4, [.ref (u4 1), .int 3, .int 0, .int 0, .int 0, .ref (u4 2), .ref (u4 3), .ref (u4 4), .int 0, .ref (u4 5), .ref (u4 6), .int 0, .int 0, .int 0, .ref (u4 7), .int 0, .int 1, .ref (u4 8)])), ((u4 1), .inl (T.1, 8, .inl (zfl [2, 5, 10, 20, 40, 80, 160, 64]))), ((u4 2), .inl (T.1, 8, .inl (fun _ => 0))), ((u4 3), .inl (T.1, 8, .inl (fun _ => 0))), ((u4 4), .inl (T.1, 8, .inl (fun _ => 0))), ((u4 5), .inl (T.1, 4, .inl (fun _ => 0))), ((u4 6), .inl (T.1, 4, .inl (fun _ => 0))), ((u4 7), .inl (T.1, 60, .inl (fun _ => 0))), ((u4 8), .inl (T.1, 10, .inl (zfl [-1, -1, -1, -1, -1, -1, -1, -1, -1, -1]))), (q5, .inr (4, [.ref (u6 1), .int 3, .int 0, .int 0, .int 0, .ref (u6 2), .ref (u6 3), .ref (u6 4), .int 0, .ref (u6 5), .ref (u6 6), .int 0, .int 0, .int 0, .ref (u6 7), .int 0, .int 1, .ref (u6 8)])), ((u6 1), .inl (T.1, 8, .inl (zfl [2, 5, 10, 20, 40, 80, 160, 64]))), ((u6 2), .inl (T.1, 8, .inl (fun _ => 0))), ((u6 3), .inl (T.1, 8, .inl (fun _ => 0))), ((u6 4), .inl (T.1, 8, .inl (fun _ => 0))), ((u6 5), .inl (T.1, 4, .inl (fun _ => 0))), ((u6 6), .inl (T.1, 4, .inl (fun _ => 0))), ((u6 7), .inl (T.1, 60, .inl (fun _ => 0))), ((u6 8), .inl (T.1, 10, .inl (zfl [-1, -1, -1, -1, -1, -1, -1, -1, -1, -1]))), (q7, .inr (0, [.ref (u8 1), .ref (u8 2), .ref (u8 3), .ref (u8 4)])), ((u8 1), .inl (T.2.1, 8, .inr (.inl (fun _ => 0)))), ((u8 2), .inl (T.2.1, 8, .inr (.inl (fun _ => 0)))), ((u8 3), .inl (T.2.1, 8, .inr (.inl (fun _ => 0)))), ((u8 4), .inl (T.1, 8, .inl (fun _ => 0))), ((u10 1), .inr (2, [.ref (u10 2), .int 0, .ref (u10 3), .ref (u10 4), .ref (u10 5), .int 0])), ((u10 2), .inl (T.1, 120, .inl (fun _ => 0))), ((u10 3), .inl (T.1, 120, .inl (fun _ => 0))), ((u10 4), .inl (T.1, 120, .inl (fun _ => 0))), ((u10 5), .inl (T.1, 120, .inl (fun _ => 0))), (q9, .inr (3, [.ref (u10 1), .ref (u10 6), .int 0, .int 0, .int 0, .int 0, .int 0])), ((u10 6), .inl (T.1, 120, .inl (fun _ => 0)))]) rfl ?_
  refine zc_putF_X7 (q0 := 0) (k := 5) (ty := tyX7 5) hB hin rfl (by decide) rfl (tyX7_ok 5 (by decide)) rfl rfl rfl rfl rfl lf_X7_32 dX7_init_56 ?_
  refine zc_ws (ws' := [(h0, .inr (5, [.ref q1, .ref q3, .ref q5, .int 0, .ref q7, .ref q9, .null, .null])), (q1, .inr (4, [.ref (u2 1), .int 3, .int 0, .int 0, .int 0, .ref (u2 2), .ref (u2 3), .ref (u2 4), .int 0, .ref (u2 5), .ref (u2 6), .int 0, .int 0, .int 0, .ref (u2 7), .int 0, .int 1, .ref (u2 8)])), ((u2 1), .inl (T.1, 8, .inl (zfl [2, 5, 10, 20, 40, 80, 160, 64]))), ((u2 2), .inl (T.1, 8, .inl (fun _ => 0))), ((u2 3), .inl (T.1, 8, .inl (fun _ => 0))), ((u2 4), .inl (T.1, 8, .inl (fun _ => 0))), ((u2 5), .inl (T.1, 4, .inl (fun _ => 0))), ((u2 6), .inl (T.1, 4, .inl (fun _ => 0))), ((u2 7), .inl (T.1, 60, .inl (fun _ => 0))), ((u2 8), .inl (T.1, 10, .inl (zfl [-1, -1, -1, -1, -1, -1, -1, -1, -1, -1]))), (q3, .inr (4, [.ref (u4 1), .int 3, .int 0, .int 0, .int 0, .ref (u4 2), .ref (u4 3), .ref (u4 4), .int 0, .ref (u4 5), .ref (u4 6), .int 0, .int 0, .int 0, .ref (u4 7), .int 0, .int 1, .ref (u4 8)])), ((u4 1), .inl (T.1, 8, .inl (zfl [2, 5, 10, 20, 40, 80, 160, 64]))), ((u4 2), .inl (T.1, 8, .inl (fun _ => 0))), ((u4 3), .inl (T.1, 8, .inl (fun _ => 0))), ((u4 4), .inl (T.1, 8, .inl (fun _ => 0))), ((u4 5), .inl (T.1, 4, .inl (fun _ => 0))), ((u4 6), .inl (T.1, 4, .inl (fun _ => 0))), ((u4 7), .inl (T.1, 60, .inl (fun _ => 0))), ((u4 8), .inl (T.1, 10, .inl (zfl [-1, -1, -1, -1, -1, -1, -1, -1, -1, -1]))), (q5, .inr (4, [.ref (u6 1), .int 3, .int 0, .int 0, .int 0, .ref (u6 2), .ref (u6 3), .ref (u6 4), .int 0, .ref (u6 5), .ref (u6 6), .int 0, .int 0, .int 0, .ref (u6 7), .int 0, .int 1, .ref (u6 8)])), ((u6 1), .inl (T.1, 8, .inl (zfl [2, 5, 10, 20, 40, 80, 160, 64]))), ((u6 2), .inl (T.1, 8, .inl (fun _ => 0))), ((u6 3), .inl (T.1, 8, .inl (fun _ => 0))), ((u6 4), .inl (T.1, 8, .inl (fun _ => 0))), ((u6 5), .inl (T.1, 4, .inl (fun _ => 0))), ((u6 6), .inl (T.1, 4, .inl (fun _ => 0))), ((u6 7), .inl (T.1, 60, .inl (fun _ => 0))), ((u6 8), .inl (T.1, 10, .inl (zfl [-1, -1, -1, -1, -1, -1, -1, -1, -1, -1]))), (q7, .inr (0, [.ref (u8 1), .ref (u8 2), .ref (u8 3), .ref (u8 4)])), ((u8 1), .inl (T.2.1, 8, .inr (.inl (fun _ => 0)))), ((u8 2), .inl (T.2.1, 8, .inr (.inl (fun _ => 0)))), ((u8 3), .inl (T.2.1, 8, .inr (.inl (fun _ => 0)))), ((u8 4), .inl (T.1, 8, .inl (fun _ => 0))), ((u10 1), .inr (2, [.ref (u10 2), .int 0, .ref (u10 3), .ref (u10 4), .ref (u10 5), .int 0])), ((u10 2), .inl (T.1, 120, .inl (fun _ => 0))), ((u10 3), .inl (T.1, 120, .inl (fun _ => 0))), ((u10 4), .inl (T.1, 120, .inl (fun _ => 0))), ((u10 5), .inl (T.1, 120, .inl (fun _ => 0))), (q9, .inr (3, [.ref (u10 1), .ref (u10 6), .int 0, .int 0, .int 0, .int 0, .int 0])), ((u10 6), .inl (T.1, 120, .inl (fun _ => 0)))]) rfl ?_
  refine zc_aload_n hB 0 rfl rfl dX7_init_59 ?_
  refine zc_iconst (v := 4) hB (by decide) dX7_init_60 ?_
  refine zc_newq (N := 4) hB (by decide) (by decide) (by decide) lc_X7_36 hN.2.2.2.1 (by decide) (by decide) dX7_init_61 (fun q11 => ?_)
  refine zc_cs (cells' := 40) (slots' := 1037) rfl rfl ?_
  refine zc_ws (ws' := [(h0, .inr (5, [.ref q1, .ref q3, .ref q5, .int 0, .ref q7, .ref q9, .null, .null])), (q1, .inr (4, [.ref (u2 1), .int 3, .int 0, .int 0, .int 0, .ref (u2 2), .ref (u2 3), .ref (u2 4), .int 0, .ref (u2 5), .ref (u2 6), .int 0, .int 0, .int 0, .ref (u2 7), .int 0, .int 1, .ref (u2 8)])), ((u2 1), .inl (T.1, 8, .inl (zfl [2, 5, 10, 20, 40, 80, 160, 64]))), ((u2 2), .inl (T.1, 8, .inl (fun _ => 0))), ((u2 3), .inl (T.1, 8, .inl (fun _ => 0))), ((u2 4), .inl (T.1, 8, .inl (fun _ => 0))), ((u2 5), .inl (T.1, 4, .inl (fun _ => 0))), ((u2 6), .inl (T.1, 4, .inl (fun _ => 0))), ((u2 7), .inl (T.1, 60, .inl (fun _ => 0))), ((u2 8), .inl (T.1, 10, .inl (zfl [-1, -1, -1, -1, -1, -1, -1, -1, -1, -1]))), (q3, .inr (4, [.ref (u4 1), .int 3, .int 0, .int 0, .int 0, .ref (u4 2), .ref (u4 3), .ref (u4 4), .int 0, .ref (u4 5), .ref (u4 6), .int 0, .int 0, .int 0, .ref (u4 7), .int 0, .int 1, .ref (u4 8)])), ((u4 1), .inl (T.1, 8, .inl (zfl [2, 5, 10, 20, 40, 80, 160, 64]))), ((u4 2), .inl (T.1, 8, .inl (fun _ => 0))), ((u4 3), .inl (T.1, 8, .inl (fun _ => 0))), ((u4 4), .inl (T.1, 8, .inl (fun _ => 0))), ((u4 5), .inl (T.1, 4, .inl (fun _ => 0))), ((u4 6), .inl (T.1, 4, .inl (fun _ => 0))), ((u4 7), .inl (T.1, 60, .inl (fun _ => 0))), ((u4 8), .inl (T.1, 10, .inl (zfl [-1, -1, -1, -1, -1, -1, -1, -1, -1, -1]))), (q5, .inr (4, [.ref (u6 1), .int 3, .int 0, .int 0, .int 0, .ref (u6 2), .ref (u6 3), .ref (u6 4), .int 0, .ref (u6 5), .ref (u6 6), .int 0, .int 0, .int 0, .ref (u6 7), .int 0, .int 1, .ref (u6 8)])), ((u6 1), .inl (T.1, 8, .inl (zfl [2, 5, 10, 20, 40, 80, 160, 64]))), ((u6 2), .inl (T.1, 8, .inl (fun _ => 0))), ((u6 3), .inl (T.1, 8, .inl (fun _ => 0))), ((u6 4), .inl (T.1, 8, .inl (fun _ => 0))), ((u6 5), .inl (T.1, 4, .inl (fun _ => 0))), ((u6 6), .inl (T.1, 4, .inl (fun _ => 0))), ((u6 7), .inl (T.1, 60, .inl (fun _ => 0))), ((u6 8), .inl (T.1, 10, .inl (zfl [-1, -1, -1, -1, -1, -1, -1, -1, -1, -1]))), (q7, .inr (0, [.ref (u8 1), .ref (u8 2), .ref (u8 3), .ref (u8 4)])), ((u8 1), .inl (T.2.1, 8, .inr (.inl (fun _ => 0)))), ((u8 2), .inl (T.2.1, 8, .inr (.inl (fun _ => 0)))), ((u8 3), .inl (T.2.1, 8, .inr (.inl (fun _ => 0)))), ((u8 4), .inl (T.1, 8, .inl (fun _ => 0))), ((u10 1), .inr (2, [.ref (u10 2), .int 0, .ref (u10 3), .ref (u10 4), .ref (u10 5), .int 0])), ((u10 2), .inl (T.1, 120, .inl (fun _ => 0))), ((u10 3), .inl (T.1, 120, .inl (fun _ => 0))), ((u10 4), .inl (T.1, 120, .inl (fun _ => 0))), ((u10 5), .inl (T.1, 120, .inl (fun _ => 0))), (q9, .inr (3, [.ref (u10 1), .ref (u10 6), .int 0, .int 0, .int 0, .int 0, .int 0])), ((u10 6), .inl (T.1, 120, .inl (fun _ => 0))), (q11, .inl (T.2.2, 4, .inr (.inr (.inr (.inr (fun _ => none))))))]) rfl ?_
  refine zc_putF_X7 (q0 := 0) (k := 6) (ty := tyX7 6) hB hin rfl (by decide) rfl (tyX7_ok 6 (by decide)) rfl rfl rfl rfl rfl lf_X7_38 dX7_init_64 ?_
  refine zc_ws (ws' := [(h0, .inr (5, [.ref q1, .ref q3, .ref q5, .int 0, .ref q7, .ref q9, .ref q11, .null])), (q1, .inr (4, [.ref (u2 1), .int 3, .int 0, .int 0, .int 0, .ref (u2 2), .ref (u2 3), .ref (u2 4), .int 0, .ref (u2 5), .ref (u2 6), .int 0, .int 0, .int 0, .ref (u2 7), .int 0, .int 1, .ref (u2 8)])), ((u2 1), .inl (T.1, 8, .inl (zfl [2, 5, 10, 20, 40, 80, 160, 64]))), ((u2 2), .inl (T.1, 8, .inl (fun _ => 0))), ((u2 3), .inl (T.1, 8, .inl (fun _ => 0))), ((u2 4), .inl (T.1, 8, .inl (fun _ => 0))), ((u2 5), .inl (T.1, 4, .inl (fun _ => 0))), ((u2 6), .inl (T.1, 4, .inl (fun _ => 0))), ((u2 7), .inl (T.1, 60, .inl (fun _ => 0))), ((u2 8), .inl (T.1, 10, .inl (zfl [-1, -1, -1, -1, -1, -1, -1, -1, -1, -1]))), (q3, .inr (4, [.ref (u4 1), .int 3, .int 0, .int 0, .int 0, .ref (u4 2), .ref (u4 3), .ref (u4 4), .int 0, .ref (u4 5), .ref (u4 6), .int 0, .int 0, .int 0, .ref (u4 7), .int 0, .int 1, .ref (u4 8)])), ((u4 1), .inl (T.1, 8, .inl (zfl [2, 5, 10, 20, 40, 80, 160, 64]))), ((u4 2), .inl (T.1, 8, .inl (fun _ => 0))), ((u4 3), .inl (T.1, 8, .inl (fun _ => 0))), ((u4 4), .inl (T.1, 8, .inl (fun _ => 0))), ((u4 5), .inl (T.1, 4, .inl (fun _ => 0))), ((u4 6), .inl (T.1, 4, .inl (fun _ => 0))), ((u4 7), .inl (T.1, 60, .inl (fun _ => 0))), ((u4 8), .inl (T.1, 10, .inl (zfl [-1, -1, -1, -1, -1, -1, -1, -1, -1, -1]))), (q5, .inr (4, [.ref (u6 1), .int 3, .int 0, .int 0, .int 0, .ref (u6 2), .ref (u6 3), .ref (u6 4), .int 0, .ref (u6 5), .ref (u6 6), .int 0, .int 0, .int 0, .ref (u6 7), .int 0, .int 1, .ref (u6 8)])), ((u6 1), .inl (T.1, 8, .inl (zfl [2, 5, 10, 20, 40, 80, 160, 64]))), ((u6 2), .inl (T.1, 8, .inl (fun _ => 0))), ((u6 3), .inl (T.1, 8, .inl (fun _ => 0))), ((u6 4), .inl (T.1, 8, .inl (fun _ => 0))), ((u6 5), .inl (T.1, 4, .inl (fun _ => 0))), ((u6 6), .inl (T.1, 4, .inl (fun _ => 0))), ((u6 7), .inl (T.1, 60, .inl (fun _ => 0))), ((u6 8), .inl (T.1, 10, .inl (zfl [-1, -1, -1, -1, -1, -1, -1, -1, -1, -1]))), (q7, .inr (0, [.ref (u8 1), .ref (u8 2), .ref (u8 3), .ref (u8 4)])), ((u8 1), .inl (T.2.1, 8, .inr (.inl (fun _ => 0)))), ((u8 2), .inl (T.2.1, 8, .inr (.inl (fun _ => 0)))), ((u8 3), .inl (T.2.1, 8, .inr (.inl (fun _ => 0)))), ((u8 4), .inl (T.1, 8, .inl (fun _ => 0))), ((u10 1), .inr (2, [.ref (u10 2), .int 0, .ref (u10 3), .ref (u10 4), .ref (u10 5), .int 0])), ((u10 2), .inl (T.1, 120, .inl (fun _ => 0))), ((u10 3), .inl (T.1, 120, .inl (fun _ => 0))), ((u10 4), .inl (T.1, 120, .inl (fun _ => 0))), ((u10 5), .inl (T.1, 120, .inl (fun _ => 0))), (q9, .inr (3, [.ref (u10 1), .ref (u10 6), .int 0, .int 0, .int 0, .int 0, .int 0])), ((u10 6), .inl (T.1, 120, .inl (fun _ => 0))), (q11, .inl (T.2.2, 4, .inr (.inr (.inr (.inr (fun _ => none))))))]) rfl ?_
  refine zc_aload_n hB 0 rfl rfl dX7_init_67 ?_
  refine zc_bipush (v := 7) hB (by decide) dX7_init_68 ?_
  refine zc_newa (N := 7) hB (by decide) (by decide) (by decide) (by decide) (by decide) dX7_init_70 (fun q12 => ?_)
  refine zc_cs (cells' := 41) (slots' := 1044) rfl rfl ?_
  refine zc_ws (ws' := [(h0, .inr (5, [.ref q1, .ref q3, .ref q5, .int 0, .ref q7, .ref q9, .ref q11, .null])), (q1, .inr (4, [.ref (u2 1), .int 3, .int 0, .int 0, .int 0, .ref (u2 2), .ref (u2 3), .ref (u2 4), .int 0, .ref (u2 5), .ref (u2 6), .int 0, .int 0, .int 0, .ref (u2 7), .int 0, .int 1, .ref (u2 8)])), ((u2 1), .inl (T.1, 8, .inl (zfl [2, 5, 10, 20, 40, 80, 160, 64]))), ((u2 2), .inl (T.1, 8, .inl (fun _ => 0))), ((u2 3), .inl (T.1, 8, .inl (fun _ => 0))), ((u2 4), .inl (T.1, 8, .inl (fun _ => 0))), ((u2 5), .inl (T.1, 4, .inl (fun _ => 0))), ((u2 6), .inl (T.1, 4, .inl (fun _ => 0))), ((u2 7), .inl (T.1, 60, .inl (fun _ => 0))), ((u2 8), .inl (T.1, 10, .inl (zfl [-1, -1, -1, -1, -1, -1, -1, -1, -1, -1]))), (q3, .inr (4, [.ref (u4 1), .int 3, .int 0, .int 0, .int 0, .ref (u4 2), .ref (u4 3), .ref (u4 4), .int 0, .ref (u4 5), .ref (u4 6), .int 0, .int 0, .int 0, .ref (u4 7), .int 0, .int 1, .ref (u4 8)])), ((u4 1), .inl (T.1, 8, .inl (zfl [2, 5, 10, 20, 40, 80, 160, 64]))), ((u4 2), .inl (T.1, 8, .inl (fun _ => 0))), ((u4 3), .inl (T.1, 8, .inl (fun _ => 0))), ((u4 4), .inl (T.1, 8, .inl (fun _ => 0))), ((u4 5), .inl (T.1, 4, .inl (fun _ => 0))), ((u4 6), .inl (T.1, 4, .inl (fun _ => 0))), ((u4 7), .inl (T.1, 60, .inl (fun _ => 0))), ((u4 8), .inl (T.1, 10, .inl (zfl [-1, -1, -1, -1, -1, -1, -1, -1, -1, -1]))), (q5, .inr (4, [.ref (u6 1), .int 3, .int 0, .int 0, .int 0, .ref (u6 2), .ref (u6 3), .ref (u6 4), .int 0, .ref (u6 5), .ref (u6 6), .int 0, .int 0, .int 0, .ref (u6 7), .int 0, .int 1, .ref (u6 8)])), ((u6 1), .inl (T.1, 8, .inl (zfl [2, 5, 10, 20, 40, 80, 160, 64]))), ((u6 2), .inl (T.1, 8, .inl (fun _ => 0))), ((u6 3), .inl (T.1, 8, .inl (fun _ => 0))), ((u6 4), .inl (T.1, 8, .inl (fun _ => 0))), ((u6 5), .inl (T.1, 4, .inl (fun _ => 0))), ((u6 6), .inl (T.1, 4, .inl (fun _ => 0))), ((u6 7), .inl (T.1, 60, .inl (fun _ => 0))), ((u6 8), .inl (T.1, 10, .inl (zfl [-1, -1, -1, -1, -1, -1, -1, -1, -1, -1]))), (q7, .inr (0, [.ref (u8 1), .ref (u8 2), .ref (u8 3), .ref (u8 4)])), ((u8 1), .inl (T.2.1, 8, .inr (.inl (fun _ => 0)))), ((u8 2), .inl (T.2.1, 8, .inr (.inl (fun _ => 0)))), ((u8 3), .inl (T.2.1, 8, .inr (.inl (fun _ => 0)))), ((u8 4), .inl (T.1, 8, .inl (fun _ => 0))), ((u10 1), .inr (2, [.ref (u10 2), .int 0, .ref (u10 3), .ref (u10 4), .ref (u10 5), .int 0])), ((u10 2), .inl (T.1, 120, .inl (fun _ => 0))), ((u10 3), .inl (T.1, 120, .inl (fun _ => 0))), ((u10 4), .inl (T.1, 120, .inl (fun _ => 0))), ((u10 5), .inl (T.1, 120, .inl (fun _ => 0))), (q9, .inr (3, [.ref (u10 1), .ref (u10 6), .int 0, .int 0, .int 0, .int 0, .int 0])), ((u10 6), .inl (T.1, 120, .inl (fun _ => 0))), (q11, .inl (T.2.2, 4, .inr (.inr (.inr (.inr (fun _ => none)))))), (q12, .inl (T.1, 7, .inl (fun _ => 0)))]) rfl ?_
  refine zc_putF_X7 (q0 := 0) (k := 7) (ty := tyX7 7) hB hin rfl (by decide) rfl (tyX7_ok 7 (by decide)) rfl rfl rfl rfl rfl lf_X7_42 dX7_init_72 ?_
  refine zc_ws (ws' := [(h0, .inr (5, [.ref q1, .ref q3, .ref q5, .int 0, .ref q7, .ref q9, .ref q11, .ref q12])), (q1, .inr (4, [.ref (u2 1), .int 3, .int 0, .int 0, .int 0, .ref (u2 2), .ref (u2 3), .ref (u2 4), .int 0, .ref (u2 5), .ref (u2 6), .int 0, .int 0, .int 0, .ref (u2 7), .int 0, .int 1, .ref (u2 8)])), ((u2 1), .inl (T.1, 8, .inl (zfl [2, 5, 10, 20, 40, 80, 160, 64]))), ((u2 2), .inl (T.1, 8, .inl (fun _ => 0))), ((u2 3), .inl (T.1, 8, .inl (fun _ => 0))), ((u2 4), .inl (T.1, 8, .inl (fun _ => 0))), ((u2 5), .inl (T.1, 4, .inl (fun _ => 0))), ((u2 6), .inl (T.1, 4, .inl (fun _ => 0))), ((u2 7), .inl (T.1, 60, .inl (fun _ => 0))), ((u2 8), .inl (T.1, 10, .inl (zfl [-1, -1, -1, -1, -1, -1, -1, -1, -1, -1]))), (q3, .inr (4, [.ref (u4 1), .int 3, .int 0, .int 0, .int 0, .ref (u4 2), .ref (u4 3), .ref (u4 4), .int 0, .ref (u4 5), .ref (u4 6), .int 0, .int 0, .int 0, .ref (u4 7), .int 0, .int 1, .ref (u4 8)])), ((u4 1), .inl (T.1, 8, .inl (zfl [2, 5, 10, 20, 40, 80, 160, 64]))), ((u4 2), .inl (T.1, 8, .inl (fun _ => 0))), ((u4 3), .inl (T.1, 8, .inl (fun _ => 0))), ((u4 4), .inl (T.1, 8, .inl (fun _ => 0))), ((u4 5), .inl (T.1, 4, .inl (fun _ => 0))), ((u4 6), .inl (T.1, 4, .inl (fun _ => 0))), ((u4 7), .inl (T.1, 60, .inl (fun _ => 0))), ((u4 8), .inl (T.1, 10, .inl (zfl [-1, -1, -1, -1, -1, -1, -1, -1, -1, -1]))), (q5, .inr (4, [.ref (u6 1), .int 3, .int 0, .int 0, .int 0, .ref (u6 2), .ref (u6 3), .ref (u6 4), .int 0, .ref (u6 5), .ref (u6 6), .int 0, .int 0, .int 0, .ref (u6 7), .int 0, .int 1, .ref (u6 8)])), ((u6 1), .inl (T.1, 8, .inl (zfl [2, 5, 10, 20, 40, 80, 160, 64]))), ((u6 2), .inl (T.1, 8, .inl (fun _ => 0))), ((u6 3), .inl (T.1, 8, .inl (fun _ => 0))), ((u6 4), .inl (T.1, 8, .inl (fun _ => 0))), ((u6 5), .inl (T.1, 4, .inl (fun _ => 0))), ((u6 6), .inl (T.1, 4, .inl (fun _ => 0))), ((u6 7), .inl (T.1, 60, .inl (fun _ => 0))), ((u6 8), .inl (T.1, 10, .inl (zfl [-1, -1, -1, -1, -1, -1, -1, -1, -1, -1]))), (q7, .inr (0, [.ref (u8 1), .ref (u8 2), .ref (u8 3), .ref (u8 4)])), ((u8 1), .inl (T.2.1, 8, .inr (.inl (fun _ => 0)))), ((u8 2), .inl (T.2.1, 8, .inr (.inl (fun _ => 0)))), ((u8 3), .inl (T.2.1, 8, .inr (.inl (fun _ => 0)))), ((u8 4), .inl (T.1, 8, .inl (fun _ => 0))), ((u10 1), .inr (2, [.ref (u10 2), .int 0, .ref (u10 3), .ref (u10 4), .ref (u10 5), .int 0])), ((u10 2), .inl (T.1, 120, .inl (fun _ => 0))), ((u10 3), .inl (T.1, 120, .inl (fun _ => 0))), ((u10 4), .inl (T.1, 120, .inl (fun _ => 0))), ((u10 5), .inl (T.1, 120, .inl (fun _ => 0))), (q9, .inr (3, [.ref (u10 1), .ref (u10 6), .int 0, .int 0, .int 0, .int 0, .int 0])), ((u10 6), .inl (T.1, 120, .inl (fun _ => 0))), (q11, .inl (T.2.2, 4, .inr (.inr (.inr (.inr (fun _ => none)))))), (q12, .inl (T.1, 7, .inl (fun _ => 0)))]) rfl ?_
  refine zc_iconst (v := 0) hB (by decide) dX7_init_75 ?_
  refine zc_istore_n (lv' := [(1, .int 0), (0, .ref h0)]) hB rfl (by decide) rfl dX7_init_76 ?_
  refine zc_iload_n hB 0 rfl rfl dX7_init_77 ?_
  refine zc_iconst (v := 4) hB (by decide) dX7_init_78 ?_
  refine zc_geF (tgt := 101) hB (by decide) (by decide) dX7_init_79 ?_
  refine zc_aload_n hB 1 rfl rfl dX7_init_82 ?_
  refine zc_get_X7 (q0 := 0) (k := 6) (v := .ref q11) hB rfl (by decide) rfl rfl lf_X7_38 dX7_init_83 ?_
  refine zc_iload_n hB 0 rfl rfl dX7_init_86 ?_
  refine zc_new_X2 (fs := [.int 0, .int 0, .null]) hB zfs_X2 lc_X7_36 li_X2 q4_X2 (by decide) (by decide) dX7_init_87 (fun q13 => ?_)
  refine zc_cs (cells' := 42) (slots' := 1047) rfl rfl ?_
  refine zc_ws (ws' := [(h0, .inr (5, [.ref q1, .ref q3, .ref q5, .int 0, .ref q7, .ref q9, .ref q11, .ref q12])), (q1, .inr (4, [.ref (u2 1), .int 3, .int 0, .int 0, .int 0, .ref (u2 2), .ref (u2 3), .ref (u2 4), .int 0, .ref (u2 5), .ref (u2 6), .int 0, .int 0, .int 0, .ref (u2 7), .int 0, .int 1, .ref (u2 8)])), ((u2 1), .inl (T.1, 8, .inl (zfl [2, 5, 10, 20, 40, 80, 160, 64]))), ((u2 2), .inl (T.1, 8, .inl (fun _ => 0))), ((u2 3), .inl (T.1, 8, .inl (fun _ => 0))), ((u2 4), .inl (T.1, 8, .inl (fun _ => 0))), ((u2 5), .inl (T.1, 4, .inl (fun _ => 0))), ((u2 6), .inl (T.1, 4, .inl (fun _ => 0))), ((u2 7), .inl (T.1, 60, .inl (fun _ => 0))), ((u2 8), .inl (T.1, 10, .inl (zfl [-1, -1, -1, -1, -1, -1, -1, -1, -1, -1]))), (q3, .inr (4, [.ref (u4 1), .int 3, .int 0, .int 0, .int 0, .ref (u4 2), .ref (u4 3), .ref (u4 4), .int 0, .ref (u4 5), .ref (u4 6), .int 0, .int 0, .int 0, .ref (u4 7), .int 0, .int 1, .ref (u4 8)])), ((u4 1), .inl (T.1, 8, .inl (zfl [2, 5, 10, 20, 40, 80, 160, 64]))), ((u4 2), .inl (T.1, 8, .inl (fun _ => 0))), ((u4 3), .inl (T.1, 8, .inl (fun _ => 0))), ((u4 4), .inl (T.1, 8, .inl (fun _ => 0))), ((u4 5), .inl (T.1, 4, .inl (fun _ => 0))), ((u4 6), .inl (T.1, 4, .inl (fun _ => 0))), ((u4 7), .inl (T.1, 60, .inl (fun _ => 0))), ((u4 8), .inl (T.1, 10, .inl (zfl [-1, -1, -1, -1, -1, -1, -1, -1, -1, -1]))), (q5, .inr (4, [.ref (u6 1), .int 3, .int 0, .int 0, .int 0, .ref (u6 2), .ref (u6 3), .ref (u6 4), .int 0, .ref (u6 5), .ref (u6 6), .int 0, .int 0, .int 0, .ref (u6 7), .int 0, .int 1, .ref (u6 8)])), ((u6 1), .inl (T.1, 8, .inl (zfl [2, 5, 10, 20, 40, 80, 160, 64]))), ((u6 2), .inl (T.1, 8, .inl (fun _ => 0))), ((u6 3), .inl (T.1, 8, .inl (fun _ => 0))), ((u6 4), .inl (T.1, 8, .inl (fun _ => 0))), ((u6 5), .inl (T.1, 4, .inl (fun _ => 0))), ((u6 6), .inl (T.1, 4, .inl (fun _ => 0))), ((u6 7), .inl (T.1, 60, .inl (fun _ => 0))), ((u6 8), .inl (T.1, 10, .inl (zfl [-1, -1, -1, -1, -1, -1, -1, -1, -1, -1]))), (q7, .inr (0, [.ref (u8 1), .ref (u8 2), .ref (u8 3), .ref (u8 4)])), ((u8 1), .inl (T.2.1, 8, .inr (.inl (fun _ => 0)))), ((u8 2), .inl (T.2.1, 8, .inr (.inl (fun _ => 0)))), ((u8 3), .inl (T.2.1, 8, .inr (.inl (fun _ => 0)))), ((u8 4), .inl (T.1, 8, .inl (fun _ => 0))), ((u10 1), .inr (2, [.ref (u10 2), .int 0, .ref (u10 3), .ref (u10 4), .ref (u10 5), .int 0])), ((u10 2), .inl (T.1, 120, .inl (fun _ => 0))), ((u10 3), .inl (T.1, 120, .inl (fun _ => 0))), ((u10 4), .inl (T.1, 120, .inl (fun _ => 0))), ((u10 5), .inl (T.1, 120, .inl (fun _ => 0))), (q9, .inr (3, [.ref (u10 1), .ref (u10 6), .int 0, .int 0, .int 0, .int 0, .int 0])), ((u10 6), .inl (T.1, 120, .inl (fun _ => 0))), (q11, .inl (T.2.2, 4, .inr (.inr (.inr (.inr (fun _ => none)))))), (q12, .inl (T.1, 7, .inl (fun _ => 0))), (q13, .inr (1, [.int 0, .int 0, .null]))]) rfl ?_
  refine zc_dup hB rfl dX7_init_90 ?_
  refine zc_callN (host := RX7) (X := fun _ => True) (st := [.ref q13, .int 0, .ref q11]) (As := []) (wr := [(h0, .inr (5, [.ref q1, .ref q3, .ref q5, .int 0, .ref q7, .ref q9, .ref q11, .ref q12])), (q1, .inr (4, [.ref (u2 1), .int 3, .int 0, .int 0, .int 0, .ref (u2 2), .ref (u2 3), .ref (u2 4), .int 0, .ref (u2 5), .ref (u2 6), .int 0, .int 0, .int 0, .ref (u2 7), .int 0, .int 1, .ref (u2 8)])), ((u2 1), .inl (T.1, 8, .inl (zfl [2, 5, 10, 20, 40, 80, 160, 64]))), ((u2 2), .inl (T.1, 8, .inl (fun _ => 0))), ((u2 3), .inl (T.1, 8, .inl (fun _ => 0))), ((u2 4), .inl (T.1, 8, .inl (fun _ => 0))), ((u2 5), .inl (T.1, 4, .inl (fun _ => 0))), ((u2 6), .inl (T.1, 4, .inl (fun _ => 0))), ((u2 7), .inl (T.1, 60, .inl (fun _ => 0))), ((u2 8), .inl (T.1, 10, .inl (zfl [-1, -1, -1, -1, -1, -1, -1, -1, -1, -1]))), (q3, .inr (4, [.ref (u4 1), .int 3, .int 0, .int 0, .int 0, .ref (u4 2), .ref (u4 3), .ref (u4 4), .int 0, .ref (u4 5), .ref (u4 6), .int 0, .int 0, .int 0, .ref (u4 7), .int 0, .int 1, .ref (u4 8)])), ((u4 1), .inl (T.1, 8, .inl (zfl [2, 5, 10, 20, 40, 80, 160, 64]))), ((u4 2), .inl (T.1, 8, .inl (fun _ => 0))), ((u4 3), .inl (T.1, 8, .inl (fun _ => 0))), ((u4 4), .inl (T.1, 8, .inl (fun _ => 0))), ((u4 5), .inl (T.1, 4, .inl (fun _ => 0))), ((u4 6), .inl (T.1, 4, .inl (fun _ => 0))), ((u4 7), .inl (T.1, 60, .inl (fun _ => 0))), ((u4 8), .inl (T.1, 10, .inl (zfl [-1, -1, -1, -1, -1, -1, -1, -1, -1, -1]))), (q5, .inr (4, [.ref (u6 1), .int 3, .int 0, .int 0, .int 0, .ref (u6 2), .ref (u6 3), .ref (u6 4), .int 0, .ref (u6 5), .ref (u6 6), .int 0, .int 0, .int 0, .ref (u6 7), .int 0, .int 1, .ref (u6 8)])), ((u6 1), .inl (T.1, 8, .inl (zfl [2, 5, 10, 20, 40, 80, 160, 64]))), ((u6 2), .inl (T.1, 8, .inl (fun _ => 0))), ((u6 3), .inl (T.1, 8, .inl (fun _ => 0))), ((u6 4), .inl (T.1, 8, .inl (fun _ => 0))), ((u6 5), .inl (T.1, 4, .inl (fun _ => 0))), ((u6 6), .inl (T.1, 4, .inl (fun _ => 0))), ((u6 7), .inl (T.1, 60, .inl (fun _ => 0))), ((u6 8), .inl (T.1, 10, .inl (zfl [-1, -1, -1, -1, -1, -1, -1, -1, -1, -1]))), (q7, .inr (0, [.ref (u8 1), .ref (u8 2), .ref (u8 3), .ref (u8 4)])), ((u8 1), .inl (T.2.1, 8, .inr (.inl (fun _ => 0)))), ((u8 2), .inl (T.2.1, 8, .inr (.inl (fun _ => 0)))), ((u8 3), .inl (T.2.1, 8, .inr (.inl (fun _ => 0)))), ((u8 4), .inl (T.1, 8, .inl (fun _ => 0))), ((u10 1), .inr (2, [.ref (u10 2), .int 0, .ref (u10 3), .ref (u10 4), .ref (u10 5), .int 0])), ((u10 2), .inl (T.1, 120, .inl (fun _ => 0))), ((u10 3), .inl (T.1, 120, .inl (fun _ => 0))), ((u10 4), .inl (T.1, 120, .inl (fun _ => 0))), ((u10 5), .inl (T.1, 120, .inl (fun _ => 0))), (q9, .inr (3, [.ref (u10 1), .ref (u10 6), .int 0, .int 0, .int 0, .int 0, .int 0])), ((u10 6), .inl (T.1, 120, .inl (fun _ => 0))), (q11, .inl (T.2.2, 4, .inr (.inr (.inr (.inr (fun _ => none)))))), (q12, .inl (T.1, 7, .inl (fun _ => 0)))]) (x := (q13, .inr (1, [.int 0, .int 0, .null]))) hB rfl (fun _ _ _ _ _ => trivial) (fun _ _ _ _ _ _ _ => trivial) (mcX2_init (l := l) (D := D) (T := T) q13) hN.2.2.1 q2_X2_init q4_X2 q5_X2_init rfl qd_X2_init (by decide) rfl rfl (Nat.le_of_ble_eq_true rfl) (by decide) dX7_init_91 (fun u14 => ?_)
  refine zc_cs (cells' := 43) (slots' := 1087) rfl rfl ?_
  refine zc_ws (ws' := [(h0, .inr (5, [.ref q1, .ref q3, .ref q5, .int 0, .ref q7, .ref q9, .ref q11, .ref q12])), (q1, .inr (4, [.ref (u2 1), .int 3, .int 0, .int 0, .int 0, .ref (u2 2), .ref (u2 3), .ref (u2 4), .int 0, .ref (u2 5), .ref (u2 6), .int 0, .int 0, .int 0, .ref (u2 7), .int 0, .int 1, .ref (u2 8)])), ((u2 1), .inl (T.1, 8, .inl (zfl [2, 5, 10, 20, 40, 80, 160, 64]))), ((u2 2), .inl (T.1, 8, .inl (fun _ => 0))), ((u2 3), .inl (T.1, 8, .inl (fun _ => 0))), ((u2 4), .inl (T.1, 8, .inl (fun _ => 0))), ((u2 5), .inl (T.1, 4, .inl (fun _ => 0))), ((u2 6), .inl (T.1, 4, .inl (fun _ => 0))), ((u2 7), .inl (T.1, 60, .inl (fun _ => 0))), ((u2 8), .inl (T.1, 10, .inl (zfl [-1, -1, -1, -1, -1, -1, -1, -1, -1, -1]))), (q3, .inr (4, [.ref (u4 1), .int 3, .int 0, .int 0, .int 0, .ref (u4 2), .ref (u4 3), .ref (u4 4), .int 0, .ref (u4 5), .ref (u4 6), .int 0, .int 0, .int 0, .ref (u4 7), .int 0, .int 1, .ref (u4 8)])), ((u4 1), .inl (T.1, 8, .inl (zfl [2, 5, 10, 20, 40, 80, 160, 64]))), ((u4 2), .inl (T.1, 8, .inl (fun _ => 0))), ((u4 3), .inl (T.1, 8, .inl (fun _ => 0))), ((u4 4), .inl (T.1, 8, .inl (fun _ => 0))), ((u4 5), .inl (T.1, 4, .inl (fun _ => 0))), ((u4 6), .inl (T.1, 4, .inl (fun _ => 0))), ((u4 7), .inl (T.1, 60, .inl (fun _ => 0))), ((u4 8), .inl (T.1, 10, .inl (zfl [-1, -1, -1, -1, -1, -1, -1, -1, -1, -1]))), (q5, .inr (4, [.ref (u6 1), .int 3, .int 0, .int 0, .int 0, .ref (u6 2), .ref (u6 3), .ref (u6 4), .int 0, .ref (u6 5), .ref (u6 6), .int 0, .int 0, .int 0, .ref (u6 7), .int 0, .int 1, .ref (u6 8)])), ((u6 1), .inl (T.1, 8, .inl (zfl [2, 5, 10, 20, 40, 80, 160, 64]))), ((u6 2), .inl (T.1, 8, .inl (fun _ => 0))), ((u6 3), .inl (T.1, 8, .inl (fun _ => 0))), ((u6 4), .inl (T.1, 8, .inl (fun _ => 0))), ((u6 5), .inl (T.1, 4, .inl (fun _ => 0))), ((u6 6), .inl (T.1, 4, .inl (fun _ => 0))), ((u6 7), .inl (T.1, 60, .inl (fun _ => 0))), ((u6 8), .inl (T.1, 10, .inl (zfl [-1, -1, -1, -1, -1, -1, -1, -1, -1, -1]))), (q7, .inr (0, [.ref (u8 1), .ref (u8 2), .ref (u8 3), .ref (u8 4)])), ((u8 1), .inl (T.2.1, 8, .inr (.inl (fun _ => 0)))), ((u8 2), .inl (T.2.1, 8, .inr (.inl (fun _ => 0)))), ((u8 3), .inl (T.2.1, 8, .inr (.inl (fun _ => 0)))), ((u8 4), .inl (T.1, 8, .inl (fun _ => 0))), ((u10 1), .inr (2, [.ref (u10 2), .int 0, .ref (u10 3), .ref (u10 4), .ref (u10 5), .int 0])), ((u10 2), .inl (T.1, 120, .inl (fun _ => 0))), ((u10 3), .inl (T.1, 120, .inl (fun _ => 0))), ((u10 4), .inl (T.1, 120, .inl (fun _ => 0))), ((u10 5), .inl (T.1, 120, .inl (fun _ => 0))), (q9, .inr (3, [.ref (u10 1), .ref (u10 6), .int 0, .int 0, .int 0, .int 0, .int 0])), ((u10 6), .inl (T.1, 120, .inl (fun _ => 0))), (q11, .inl (T.2.2, 4, .inr (.inr (.inr (.inr (fun _ => none)))))), (q12, .inl (T.1, 7, .inl (fun _ => 0))), (q13, .inr (1, [.int 0, .int 0, .ref (u14 1)])), ((u14 1), .inl (T.1, 40, .inl (fun _ => 0)))]) rfl ?_
  refine zc_ast (q0 := 40) (qk := 42) hB rfl rfl (by unfold vp_in; decide) dX7_init_94 ?_
  refine zc_ws (ws' := [(h0, .inr (5, [.ref q1, .ref q3, .ref q5, .int 0, .ref q7, .ref q9, .ref q11, .ref q12])), (q1, .inr (4, [.ref (u2 1), .int 3, .int 0, .int 0, .int 0, .ref (u2 2), .ref (u2 3), .ref (u2 4), .int 0, .ref (u2 5), .ref (u2 6), .int 0, .int 0, .int 0, .ref (u2 7), .int 0, .int 1, .ref (u2 8)])), ((u2 1), .inl (T.1, 8, .inl (zfl [2, 5, 10, 20, 40, 80, 160, 64]))), ((u2 2), .inl (T.1, 8, .inl (fun _ => 0))), ((u2 3), .inl (T.1, 8, .inl (fun _ => 0))), ((u2 4), .inl (T.1, 8, .inl (fun _ => 0))), ((u2 5), .inl (T.1, 4, .inl (fun _ => 0))), ((u2 6), .inl (T.1, 4, .inl (fun _ => 0))), ((u2 7), .inl (T.1, 60, .inl (fun _ => 0))), ((u2 8), .inl (T.1, 10, .inl (zfl [-1, -1, -1, -1, -1, -1, -1, -1, -1, -1]))), (q3, .inr (4, [.ref (u4 1), .int 3, .int 0, .int 0, .int 0, .ref (u4 2), .ref (u4 3), .ref (u4 4), .int 0, .ref (u4 5), .ref (u4 6), .int 0, .int 0, .int 0, .ref (u4 7), .int 0, .int 1, .ref (u4 8)])), ((u4 1), .inl (T.1, 8, .inl (zfl [2, 5, 10, 20, 40, 80, 160, 64]))), ((u4 2), .inl (T.1, 8, .inl (fun _ => 0))), ((u4 3), .inl (T.1, 8, .inl (fun _ => 0))), ((u4 4), .inl (T.1, 8, .inl (fun _ => 0))), ((u4 5), .inl (T.1, 4, .inl (fun _ => 0))), ((u4 6), .inl (T.1, 4, .inl (fun _ => 0))), ((u4 7), .inl (T.1, 60, .inl (fun _ => 0))), ((u4 8), .inl (T.1, 10, .inl (zfl [-1, -1, -1, -1, -1, -1, -1, -1, -1, -1]))), (q5, .inr (4, [.ref (u6 1), .int 3, .int 0, .int 0, .int 0, .ref (u6 2), .ref (u6 3), .ref (u6 4), .int 0, .ref (u6 5), .ref (u6 6), .int 0, .int 0, .int 0, .ref (u6 7), .int 0, .int 1, .ref (u6 8)])), ((u6 1), .inl (T.1, 8, .inl (zfl [2, 5, 10, 20, 40, 80, 160, 64]))), ((u6 2), .inl (T.1, 8, .inl (fun _ => 0))), ((u6 3), .inl (T.1, 8, .inl (fun _ => 0))), ((u6 4), .inl (T.1, 8, .inl (fun _ => 0))), ((u6 5), .inl (T.1, 4, .inl (fun _ => 0))), ((u6 6), .inl (T.1, 4, .inl (fun _ => 0))), ((u6 7), .inl (T.1, 60, .inl (fun _ => 0))), ((u6 8), .inl (T.1, 10, .inl (zfl [-1, -1, -1, -1, -1, -1, -1, -1, -1, -1]))), (q7, .inr (0, [.ref (u8 1), .ref (u8 2), .ref (u8 3), .ref (u8 4)])), ((u8 1), .inl (T.2.1, 8, .inr (.inl (fun _ => 0)))), ((u8 2), .inl (T.2.1, 8, .inr (.inl (fun _ => 0)))), ((u8 3), .inl (T.2.1, 8, .inr (.inl (fun _ => 0)))), ((u8 4), .inl (T.1, 8, .inl (fun _ => 0))), ((u10 1), .inr (2, [.ref (u10 2), .int 0, .ref (u10 3), .ref (u10 4), .ref (u10 5), .int 0])), ((u10 2), .inl (T.1, 120, .inl (fun _ => 0))), ((u10 3), .inl (T.1, 120, .inl (fun _ => 0))), ((u10 4), .inl (T.1, 120, .inl (fun _ => 0))), ((u10 5), .inl (T.1, 120, .inl (fun _ => 0))), (q9, .inr (3, [.ref (u10 1), .ref (u10 6), .int 0, .int 0, .int 0, .int 0, .int 0])), ((u10 6), .inl (T.1, 120, .inl (fun _ => 0))), (q11, .inl (T.2.2, 4, .inr (.inr (.inr (.inr (va_up (fun _ => none) 0 (some q13))))))), (q12, .inl (T.1, 7, .inl (fun _ => 0))), (q13, .inr (1, [.int 0, .int 0, .ref (u14 1)])), ((u14 1), .inl (T.1, 40, .inl (fun _ => 0)))]) rfl ?_
  refine zc_iinc (lv' := [(1, .int 1), (0, .ref h0)]) (v := 1) hB (j := 0) rfl (by decide) (by decide) rfl dX7_init_95 ?_
  refine zc_goto (tgt := 77) hB (by decide) dX7_init_98 ?_
  refine zc_iload_n hB 0 rfl rfl dX7_init_77 ?_
  refine zc_iconst (v := 4) hB (by decide) dX7_init_78 ?_
  refine zc_geF (tgt := 101) hB (by decide) (by decide) dX7_init_79 ?_
  refine zc_aload_n hB 1 rfl rfl dX7_init_82 ?_
  refine zc_get_X7 (q0 := 0) (k := 6) (v := .ref q11) hB rfl (by decide) rfl rfl lf_X7_38 dX7_init_83 ?_
  refine zc_iload_n hB 0 rfl rfl dX7_init_86 ?_
  refine zc_new_X2 (fs := [.int 0, .int 0, .null]) hB zfs_X2 lc_X7_36 li_X2 q4_X2 (by decide) (by decide) dX7_init_87 (fun q15 => ?_)
  refine zc_cs (cells' := 44) (slots' := 1090) rfl rfl ?_
  refine zc_ws (ws' := [(h0, .inr (5, [.ref q1, .ref q3, .ref q5, .int 0, .ref q7, .ref q9, .ref q11, .ref q12])), (q1, .inr (4, [.ref (u2 1), .int 3, .int 0, .int 0, .int 0, .ref (u2 2), .ref (u2 3), .ref (u2 4), .int 0, .ref (u2 5), .ref (u2 6), .int 0, .int 0, .int 0, .ref (u2 7), .int 0, .int 1, .ref (u2 8)])), ((u2 1), .inl (T.1, 8, .inl (zfl [2, 5, 10, 20, 40, 80, 160, 64]))), ((u2 2), .inl (T.1, 8, .inl (fun _ => 0))), ((u2 3), .inl (T.1, 8, .inl (fun _ => 0))), ((u2 4), .inl (T.1, 8, .inl (fun _ => 0))), ((u2 5), .inl (T.1, 4, .inl (fun _ => 0))), ((u2 6), .inl (T.1, 4, .inl (fun _ => 0))), ((u2 7), .inl (T.1, 60, .inl (fun _ => 0))), ((u2 8), .inl (T.1, 10, .inl (zfl [-1, -1, -1, -1, -1, -1, -1, -1, -1, -1]))), (q3, .inr (4, [.ref (u4 1), .int 3, .int 0, .int 0, .int 0, .ref (u4 2), .ref (u4 3), .ref (u4 4), .int 0, .ref (u4 5), .ref (u4 6), .int 0, .int 0, .int 0, .ref (u4 7), .int 0, .int 1, .ref (u4 8)])), ((u4 1), .inl (T.1, 8, .inl (zfl [2, 5, 10, 20, 40, 80, 160, 64]))), ((u4 2), .inl (T.1, 8, .inl (fun _ => 0))), ((u4 3), .inl (T.1, 8, .inl (fun _ => 0))), ((u4 4), .inl (T.1, 8, .inl (fun _ => 0))), ((u4 5), .inl (T.1, 4, .inl (fun _ => 0))), ((u4 6), .inl (T.1, 4, .inl (fun _ => 0))), ((u4 7), .inl (T.1, 60, .inl (fun _ => 0))), ((u4 8), .inl (T.1, 10, .inl (zfl [-1, -1, -1, -1, -1, -1, -1, -1, -1, -1]))), (q5, .inr (4, [.ref (u6 1), .int 3, .int 0, .int 0, .int 0, .ref (u6 2), .ref (u6 3), .ref (u6 4), .int 0, .ref (u6 5), .ref (u6 6), .int 0, .int 0, .int 0, .ref (u6 7), .int 0, .int 1, .ref (u6 8)])), ((u6 1), .inl (T.1, 8, .inl (zfl [2, 5, 10, 20, 40, 80, 160, 64]))), ((u6 2), .inl (T.1, 8, .inl (fun _ => 0))), ((u6 3), .inl (T.1, 8, .inl (fun _ => 0))), ((u6 4), .inl (T.1, 8, .inl (fun _ => 0))), ((u6 5), .inl (T.1, 4, .inl (fun _ => 0))), ((u6 6), .inl (T.1, 4, .inl (fun _ => 0))), ((u6 7), .inl (T.1, 60, .inl (fun _ => 0))), ((u6 8), .inl (T.1, 10, .inl (zfl [-1, -1, -1, -1, -1, -1, -1, -1, -1, -1]))), (q7, .inr (0, [.ref (u8 1), .ref (u8 2), .ref (u8 3), .ref (u8 4)])), ((u8 1), .inl (T.2.1, 8, .inr (.inl (fun _ => 0)))), ((u8 2), .inl (T.2.1, 8, .inr (.inl (fun _ => 0)))), ((u8 3), .inl (T.2.1, 8, .inr (.inl (fun _ => 0)))), ((u8 4), .inl (T.1, 8, .inl (fun _ => 0))), ((u10 1), .inr (2, [.ref (u10 2), .int 0, .ref (u10 3), .ref (u10 4), .ref (u10 5), .int 0])), ((u10 2), .inl (T.1, 120, .inl (fun _ => 0))), ((u10 3), .inl (T.1, 120, .inl (fun _ => 0))), ((u10 4), .inl (T.1, 120, .inl (fun _ => 0))), ((u10 5), .inl (T.1, 120, .inl (fun _ => 0))), (q9, .inr (3, [.ref (u10 1), .ref (u10 6), .int 0, .int 0, .int 0, .int 0, .int 0])), ((u10 6), .inl (T.1, 120, .inl (fun _ => 0))), (q11, .inl (T.2.2, 4, .inr (.inr (.inr (.inr (va_up (fun _ => none) 0 (some q13))))))), (q12, .inl (T.1, 7, .inl (fun _ => 0))), (q13, .inr (1, [.int 0, .int 0, .ref (u14 1)])), ((u14 1), .inl (T.1, 40, .inl (fun _ => 0))), (q15, .inr (1, [.int 0, .int 0, .null]))]) rfl ?_
  refine zc_dup hB rfl dX7_init_90 ?_
  refine zc_callN (host := RX7) (X := fun _ => True) (st := [.ref q15, .int 1, .ref q11]) (As := []) (wr := [(h0, .inr (5, [.ref q1, .ref q3, .ref q5, .int 0, .ref q7, .ref q9, .ref q11, .ref q12])), (q1, .inr (4, [.ref (u2 1), .int 3, .int 0, .int 0, .int 0, .ref (u2 2), .ref (u2 3), .ref (u2 4), .int 0, .ref (u2 5), .ref (u2 6), .int 0, .int 0, .int 0, .ref (u2 7), .int 0, .int 1, .ref (u2 8)])), ((u2 1), .inl (T.1, 8, .inl (zfl [2, 5, 10, 20, 40, 80, 160, 64]))), ((u2 2), .inl (T.1, 8, .inl (fun _ => 0))), ((u2 3), .inl (T.1, 8, .inl (fun _ => 0))), ((u2 4), .inl (T.1, 8, .inl (fun _ => 0))), ((u2 5), .inl (T.1, 4, .inl (fun _ => 0))), ((u2 6), .inl (T.1, 4, .inl (fun _ => 0))), ((u2 7), .inl (T.1, 60, .inl (fun _ => 0))), ((u2 8), .inl (T.1, 10, .inl (zfl [-1, -1, -1, -1, -1, -1, -1, -1, -1, -1]))), (q3, .inr (4, [.ref (u4 1), .int 3, .int 0, .int 0, .int 0, .ref (u4 2), .ref (u4 3), .ref (u4 4), .int 0, .ref (u4 5), .ref (u4 6), .int 0, .int 0, .int 0, .ref (u4 7), .int 0, .int 1, .ref (u4 8)])), ((u4 1), .inl (T.1, 8, .inl (zfl [2, 5, 10, 20, 40, 80, 160, 64]))), ((u4 2), .inl (T.1, 8, .inl (fun _ => 0))), ((u4 3), .inl (T.1, 8, .inl (fun _ => 0))), ((u4 4), .inl (T.1, 8, .inl (fun _ => 0))), ((u4 5), .inl (T.1, 4, .inl (fun _ => 0))), ((u4 6), .inl (T.1, 4, .inl (fun _ => 0))), ((u4 7), .inl (T.1, 60, .inl (fun _ => 0))), ((u4 8), .inl (T.1, 10, .inl (zfl [-1, -1, -1, -1, -1, -1, -1, -1, -1, -1]))), (q5, .inr (4, [.ref (u6 1), .int 3, .int 0, .int 0, .int 0, .ref (u6 2), .ref (u6 3), .ref (u6 4), .int 0, .ref (u6 5), .ref (u6 6), .int 0, .int 0, .int 0, .ref (u6 7), .int 0, .int 1, .ref (u6 8)])), ((u6 1), .inl (T.1, 8, .inl (zfl [2, 5, 10, 20, 40, 80, 160, 64]))), ((u6 2), .inl (T.1, 8, .inl (fun _ => 0))), ((u6 3), .inl (T.1, 8, .inl (fun _ => 0))), ((u6 4), .inl (T.1, 8, .inl (fun _ => 0))), ((u6 5), .inl (T.1, 4, .inl (fun _ => 0))), ((u6 6), .inl (T.1, 4, .inl (fun _ => 0))), ((u6 7), .inl (T.1, 60, .inl (fun _ => 0))), ((u6 8), .inl (T.1, 10, .inl (zfl [-1, -1, -1, -1, -1, -1, -1, -1, -1, -1]))), (q7, .inr (0, [.ref (u8 1), .ref (u8 2), .ref (u8 3), .ref (u8 4)])), ((u8 1), .inl (T.2.1, 8, .inr (.inl (fun _ => 0)))), ((u8 2), .inl (T.2.1, 8, .inr (.inl (fun _ => 0)))), ((u8 3), .inl (T.2.1, 8, .inr (.inl (fun _ => 0)))), ((u8 4), .inl (T.1, 8, .inl (fun _ => 0))), ((u10 1), .inr (2, [.ref (u10 2), .int 0, .ref (u10 3), .ref (u10 4), .ref (u10 5), .int 0])), ((u10 2), .inl (T.1, 120, .inl (fun _ => 0))), ((u10 3), .inl (T.1, 120, .inl (fun _ => 0))), ((u10 4), .inl (T.1, 120, .inl (fun _ => 0))), ((u10 5), .inl (T.1, 120, .inl (fun _ => 0))), (q9, .inr (3, [.ref (u10 1), .ref (u10 6), .int 0, .int 0, .int 0, .int 0, .int 0])), ((u10 6), .inl (T.1, 120, .inl (fun _ => 0))), (q11, .inl (T.2.2, 4, .inr (.inr (.inr (.inr (va_up (fun _ => none) 0 (some q13))))))), (q12, .inl (T.1, 7, .inl (fun _ => 0))), (q13, .inr (1, [.int 0, .int 0, .ref (u14 1)])), ((u14 1), .inl (T.1, 40, .inl (fun _ => 0)))]) (x := (q15, .inr (1, [.int 0, .int 0, .null]))) hB rfl (fun _ _ _ _ _ => trivial) (fun _ _ _ _ _ _ _ => trivial) (mcX2_init (l := l) (D := D) (T := T) q15) hN.2.2.1 q2_X2_init q4_X2 q5_X2_init rfl qd_X2_init (by decide) rfl rfl (Nat.le_of_ble_eq_true rfl) (by decide) dX7_init_91 (fun u16 => ?_)
  refine zc_cs (cells' := 45) (slots' := 1130) rfl rfl ?_
  refine zc_ws (ws' := [(h0, .inr (5, [.ref q1, .ref q3, .ref q5, .int 0, .ref q7, .ref q9, .ref q11, .ref q12])), (q1, .inr (4, [.ref (u2 1), .int 3, .int 0, .int 0, .int 0, .ref (u2 2), .ref (u2 3), .ref (u2 4), .int 0, .ref (u2 5), .ref (u2 6), .int 0, .int 0, .int 0, .ref (u2 7), .int 0, .int 1, .ref (u2 8)])), ((u2 1), .inl (T.1, 8, .inl (zfl [2, 5, 10, 20, 40, 80, 160, 64]))), ((u2 2), .inl (T.1, 8, .inl (fun _ => 0))), ((u2 3), .inl (T.1, 8, .inl (fun _ => 0))), ((u2 4), .inl (T.1, 8, .inl (fun _ => 0))), ((u2 5), .inl (T.1, 4, .inl (fun _ => 0))), ((u2 6), .inl (T.1, 4, .inl (fun _ => 0))), ((u2 7), .inl (T.1, 60, .inl (fun _ => 0))), ((u2 8), .inl (T.1, 10, .inl (zfl [-1, -1, -1, -1, -1, -1, -1, -1, -1, -1]))), (q3, .inr (4, [.ref (u4 1), .int 3, .int 0, .int 0, .int 0, .ref (u4 2), .ref (u4 3), .ref (u4 4), .int 0, .ref (u4 5), .ref (u4 6), .int 0, .int 0, .int 0, .ref (u4 7), .int 0, .int 1, .ref (u4 8)])), ((u4 1), .inl (T.1, 8, .inl (zfl [2, 5, 10, 20, 40, 80, 160, 64]))), ((u4 2), .inl (T.1, 8, .inl (fun _ => 0))), ((u4 3), .inl (T.1, 8, .inl (fun _ => 0))), ((u4 4), .inl (T.1, 8, .inl (fun _ => 0))), ((u4 5), .inl (T.1, 4, .inl (fun _ => 0))), ((u4 6), .inl (T.1, 4, .inl (fun _ => 0))), ((u4 7), .inl (T.1, 60, .inl (fun _ => 0))), ((u4 8), .inl (T.1, 10, .inl (zfl [-1, -1, -1, -1, -1, -1, -1, -1, -1, -1]))), (q5, .inr (4, [.ref (u6 1), .int 3, .int 0, .int 0, .int 0, .ref (u6 2), .ref (u6 3), .ref (u6 4), .int 0, .ref (u6 5), .ref (u6 6), .int 0, .int 0, .int 0, .ref (u6 7), .int 0, .int 1, .ref (u6 8)])), ((u6 1), .inl (T.1, 8, .inl (zfl [2, 5, 10, 20, 40, 80, 160, 64]))), ((u6 2), .inl (T.1, 8, .inl (fun _ => 0))), ((u6 3), .inl (T.1, 8, .inl (fun _ => 0))), ((u6 4), .inl (T.1, 8, .inl (fun _ => 0))), ((u6 5), .inl (T.1, 4, .inl (fun _ => 0))), ((u6 6), .inl (T.1, 4, .inl (fun _ => 0))), ((u6 7), .inl (T.1, 60, .inl (fun _ => 0))), ((u6 8), .inl (T.1, 10, .inl (zfl [-1, -1, -1, -1, -1, -1, -1, -1, -1, -1]))), (q7, .inr (0, [.ref (u8 1), .ref (u8 2), .ref (u8 3), .ref (u8 4)])), ((u8 1), .inl (T.2.1, 8, .inr (.inl (fun _ => 0)))), ((u8 2), .inl (T.2.1, 8, .inr (.inl (fun _ => 0)))), ((u8 3), .inl (T.2.1, 8, .inr (.inl (fun _ => 0)))), ((u8 4), .inl (T.1, 8, .inl (fun _ => 0))), ((u10 1), .inr (2, [.ref (u10 2), .int 0, .ref (u10 3), .ref (u10 4), .ref (u10 5), .int 0])), ((u10 2), .inl (T.1, 120, .inl (fun _ => 0))), ((u10 3), .inl (T.1, 120, .inl (fun _ => 0))), ((u10 4), .inl (T.1, 120, .inl (fun _ => 0))), ((u10 5), .inl (T.1, 120, .inl (fun _ => 0))), (q9, .inr (3, [.ref (u10 1), .ref (u10 6), .int 0, .int 0, .int 0, .int 0, .int 0])), ((u10 6), .inl (T.1, 120, .inl (fun _ => 0))), (q11, .inl (T.2.2, 4, .inr (.inr (.inr (.inr (va_up (fun _ => none) 0 (some q13))))))), (q12, .inl (T.1, 7, .inl (fun _ => 0))), (q13, .inr (1, [.int 0, .int 0, .ref (u14 1)])), ((u14 1), .inl (T.1, 40, .inl (fun _ => 0))), (q15, .inr (1, [.int 0, .int 0, .ref (u16 1)])), ((u16 1), .inl (T.1, 40, .inl (fun _ => 0)))]) rfl ?_
  refine zc_ast (q0 := 40) (qk := 44) hB rfl rfl (by unfold vp_in; decide) dX7_init_94 ?_
  refine zc_ws (ws' := [(h0, .inr (5, [.ref q1, .ref q3, .ref q5, .int 0, .ref q7, .ref q9, .ref q11, .ref q12])), (q1, .inr (4, [.ref (u2 1), .int 3, .int 0, .int 0, .int 0, .ref (u2 2), .ref (u2 3), .ref (u2 4), .int 0, .ref (u2 5), .ref (u2 6), .int 0, .int 0, .int 0, .ref (u2 7), .int 0, .int 1, .ref (u2 8)])), ((u2 1), .inl (T.1, 8, .inl (zfl [2, 5, 10, 20, 40, 80, 160, 64]))), ((u2 2), .inl (T.1, 8, .inl (fun _ => 0))), ((u2 3), .inl (T.1, 8, .inl (fun _ => 0))), ((u2 4), .inl (T.1, 8, .inl (fun _ => 0))), ((u2 5), .inl (T.1, 4, .inl (fun _ => 0))), ((u2 6), .inl (T.1, 4, .inl (fun _ => 0))), ((u2 7), .inl (T.1, 60, .inl (fun _ => 0))), ((u2 8), .inl (T.1, 10, .inl (zfl [-1, -1, -1, -1, -1, -1, -1, -1, -1, -1]))), (q3, .inr (4, [.ref (u4 1), .int 3, .int 0, .int 0, .int 0, .ref (u4 2), .ref (u4 3), .ref (u4 4), .int 0, .ref (u4 5), .ref (u4 6), .int 0, .int 0, .int 0, .ref (u4 7), .int 0, .int 1, .ref (u4 8)])), ((u4 1), .inl (T.1, 8, .inl (zfl [2, 5, 10, 20, 40, 80, 160, 64]))), ((u4 2), .inl (T.1, 8, .inl (fun _ => 0))), ((u4 3), .inl (T.1, 8, .inl (fun _ => 0))), ((u4 4), .inl (T.1, 8, .inl (fun _ => 0))), ((u4 5), .inl (T.1, 4, .inl (fun _ => 0))), ((u4 6), .inl (T.1, 4, .inl (fun _ => 0))), ((u4 7), .inl (T.1, 60, .inl (fun _ => 0))), ((u4 8), .inl (T.1, 10, .inl (zfl [-1, -1, -1, -1, -1, -1, -1, -1, -1, -1]))), (q5, .inr (4, [.ref (u6 1), .int 3, .int 0, .int 0, .int 0, .ref (u6 2), .ref (u6 3), .ref (u6 4), .int 0, .ref (u6 5), .ref (u6 6), .int 0, .int 0, .int 0, .ref (u6 7), .int 0, .int 1, .ref (u6 8)])), ((u6 1), .inl (T.1, 8, .inl (zfl [2, 5, 10, 20, 40, 80, 160, 64]))), ((u6 2), .inl (T.1, 8, .inl (fun _ => 0))), ((u6 3), .inl (T.1, 8, .inl (fun _ => 0))), ((u6 4), .inl (T.1, 8, .inl (fun _ => 0))), ((u6 5), .inl (T.1, 4, .inl (fun _ => 0))), ((u6 6), .inl (T.1, 4, .inl (fun _ => 0))), ((u6 7), .inl (T.1, 60, .inl (fun _ => 0))), ((u6 8), .inl (T.1, 10, .inl (zfl [-1, -1, -1, -1, -1, -1, -1, -1, -1, -1]))), (q7, .inr (0, [.ref (u8 1), .ref (u8 2), .ref (u8 3), .ref (u8 4)])), ((u8 1), .inl (T.2.1, 8, .inr (.inl (fun _ => 0)))), ((u8 2), .inl (T.2.1, 8, .inr (.inl (fun _ => 0)))), ((u8 3), .inl (T.2.1, 8, .inr (.inl (fun _ => 0)))), ((u8 4), .inl (T.1, 8, .inl (fun _ => 0))), ((u10 1), .inr (2, [.ref (u10 2), .int 0, .ref (u10 3), .ref (u10 4), .ref (u10 5), .int 0])), ((u10 2), .inl (T.1, 120, .inl (fun _ => 0))), ((u10 3), .inl (T.1, 120, .inl (fun _ => 0))), ((u10 4), .inl (T.1, 120, .inl (fun _ => 0))), ((u10 5), .inl (T.1, 120, .inl (fun _ => 0))), (q9, .inr (3, [.ref (u10 1), .ref (u10 6), .int 0, .int 0, .int 0, .int 0, .int 0])), ((u10 6), .inl (T.1, 120, .inl (fun _ => 0))), (q11, .inl (T.2.2, 4, .inr (.inr (.inr (.inr (va_up (va_up (fun _ => none) 0 (some q13)) 1 (some q15))))))), (q12, .inl (T.1, 7, .inl (fun _ => 0))), (q13, .inr (1, [.int 0, .int 0, .ref (u14 1)])), ((u14 1), .inl (T.1, 40, .inl (fun _ => 0))), (q15, .inr (1, [.int 0, .int 0, .ref (u16 1)])), ((u16 1), .inl (T.1, 40, .inl (fun _ => 0)))]) rfl ?_
  refine zc_iinc (lv' := [(1, .int 2), (0, .ref h0)]) (v := 2) hB (j := 0) rfl (by decide) (by decide) rfl dX7_init_95 ?_
  refine zc_goto (tgt := 77) hB (by decide) dX7_init_98 ?_
  refine zc_iload_n hB 0 rfl rfl dX7_init_77 ?_
  refine zc_iconst (v := 4) hB (by decide) dX7_init_78 ?_
  refine zc_geF (tgt := 101) hB (by decide) (by decide) dX7_init_79 ?_
  refine zc_aload_n hB 1 rfl rfl dX7_init_82 ?_
  refine zc_get_X7 (q0 := 0) (k := 6) (v := .ref q11) hB rfl (by decide) rfl rfl lf_X7_38 dX7_init_83 ?_
  refine zc_iload_n hB 0 rfl rfl dX7_init_86 ?_
  refine zc_new_X2 (fs := [.int 0, .int 0, .null]) hB zfs_X2 lc_X7_36 li_X2 q4_X2 (by decide) (by decide) dX7_init_87 (fun q17 => ?_)
  refine zc_cs (cells' := 46) (slots' := 1133) rfl rfl ?_
  refine zc_ws (ws' := [(h0, .inr (5, [.ref q1, .ref q3, .ref q5, .int 0, .ref q7, .ref q9, .ref q11, .ref q12])), (q1, .inr (4, [.ref (u2 1), .int 3, .int 0, .int 0, .int 0, .ref (u2 2), .ref (u2 3), .ref (u2 4), .int 0, .ref (u2 5), .ref (u2 6), .int 0, .int 0, .int 0, .ref (u2 7), .int 0, .int 1, .ref (u2 8)])), ((u2 1), .inl (T.1, 8, .inl (zfl [2, 5, 10, 20, 40, 80, 160, 64]))), ((u2 2), .inl (T.1, 8, .inl (fun _ => 0))), ((u2 3), .inl (T.1, 8, .inl (fun _ => 0))), ((u2 4), .inl (T.1, 8, .inl (fun _ => 0))), ((u2 5), .inl (T.1, 4, .inl (fun _ => 0))), ((u2 6), .inl (T.1, 4, .inl (fun _ => 0))), ((u2 7), .inl (T.1, 60, .inl (fun _ => 0))), ((u2 8), .inl (T.1, 10, .inl (zfl [-1, -1, -1, -1, -1, -1, -1, -1, -1, -1]))), (q3, .inr (4, [.ref (u4 1), .int 3, .int 0, .int 0, .int 0, .ref (u4 2), .ref (u4 3), .ref (u4 4), .int 0, .ref (u4 5), .ref (u4 6), .int 0, .int 0, .int 0, .ref (u4 7), .int 0, .int 1, .ref (u4 8)])), ((u4 1), .inl (T.1, 8, .inl (zfl [2, 5, 10, 20, 40, 80, 160, 64]))), ((u4 2), .inl (T.1, 8, .inl (fun _ => 0))), ((u4 3), .inl (T.1, 8, .inl (fun _ => 0))), ((u4 4), .inl (T.1, 8, .inl (fun _ => 0))), ((u4 5), .inl (T.1, 4, .inl (fun _ => 0))), ((u4 6), .inl (T.1, 4, .inl (fun _ => 0))), ((u4 7), .inl (T.1, 60, .inl (fun _ => 0))), ((u4 8), .inl (T.1, 10, .inl (zfl [-1, -1, -1, -1, -1, -1, -1, -1, -1, -1]))), (q5, .inr (4, [.ref (u6 1), .int 3, .int 0, .int 0, .int 0, .ref (u6 2), .ref (u6 3), .ref (u6 4), .int 0, .ref (u6 5), .ref (u6 6), .int 0, .int 0, .int 0, .ref (u6 7), .int 0, .int 1, .ref (u6 8)])), ((u6 1), .inl (T.1, 8, .inl (zfl [2, 5, 10, 20, 40, 80, 160, 64]))), ((u6 2), .inl (T.1, 8, .inl (fun _ => 0))), ((u6 3), .inl (T.1, 8, .inl (fun _ => 0))), ((u6 4), .inl (T.1, 8, .inl (fun _ => 0))), ((u6 5), .inl (T.1, 4, .inl (fun _ => 0))), ((u6 6), .inl (T.1, 4, .inl (fun _ => 0))), ((u6 7), .inl (T.1, 60, .inl (fun _ => 0))), ((u6 8), .inl (T.1, 10, .inl (zfl [-1, -1, -1, -1, -1, -1, -1, -1, -1, -1]))), (q7, .inr (0, [.ref (u8 1), .ref (u8 2), .ref (u8 3), .ref (u8 4)])), ((u8 1), .inl (T.2.1, 8, .inr (.inl (fun _ => 0)))), ((u8 2), .inl (T.2.1, 8, .inr (.inl (fun _ => 0)))), ((u8 3), .inl (T.2.1, 8, .inr (.inl (fun _ => 0)))), ((u8 4), .inl (T.1, 8, .inl (fun _ => 0))), ((u10 1), .inr (2, [.ref (u10 2), .int 0, .ref (u10 3), .ref (u10 4), .ref (u10 5), .int 0])), ((u10 2), .inl (T.1, 120, .inl (fun _ => 0))), ((u10 3), .inl (T.1, 120, .inl (fun _ => 0))), ((u10 4), .inl (T.1, 120, .inl (fun _ => 0))), ((u10 5), .inl (T.1, 120, .inl (fun _ => 0))), (q9, .inr (3, [.ref (u10 1), .ref (u10 6), .int 0, .int 0, .int 0, .int 0, .int 0])), ((u10 6), .inl (T.1, 120, .inl (fun _ => 0))), (q11, .inl (T.2.2, 4, .inr (.inr (.inr (.inr (va_up (va_up (fun _ => none) 0 (some q13)) 1 (some q15))))))), (q12, .inl (T.1, 7, .inl (fun _ => 0))), (q13, .inr (1, [.int 0, .int 0, .ref (u14 1)])), ((u14 1), .inl (T.1, 40, .inl (fun _ => 0))), (q15, .inr (1, [.int 0, .int 0, .ref (u16 1)])), ((u16 1), .inl (T.1, 40, .inl (fun _ => 0))), (q17, .inr (1, [.int 0, .int 0, .null]))]) rfl ?_
  refine zc_dup hB rfl dX7_init_90 ?_
  refine zc_callN (host := RX7) (X := fun _ => True) (st := [.ref q17, .int 2, .ref q11]) (As := []) (wr := [(h0, .inr (5, [.ref q1, .ref q3, .ref q5, .int 0, .ref q7, .ref q9, .ref q11, .ref q12])), (q1, .inr (4, [.ref (u2 1), .int 3, .int 0, .int 0, .int 0, .ref (u2 2), .ref (u2 3), .ref (u2 4), .int 0, .ref (u2 5), .ref (u2 6), .int 0, .int 0, .int 0, .ref (u2 7), .int 0, .int 1, .ref (u2 8)])), ((u2 1), .inl (T.1, 8, .inl (zfl [2, 5, 10, 20, 40, 80, 160, 64]))), ((u2 2), .inl (T.1, 8, .inl (fun _ => 0))), ((u2 3), .inl (T.1, 8, .inl (fun _ => 0))), ((u2 4), .inl (T.1, 8, .inl (fun _ => 0))), ((u2 5), .inl (T.1, 4, .inl (fun _ => 0))), ((u2 6), .inl (T.1, 4, .inl (fun _ => 0))), ((u2 7), .inl (T.1, 60, .inl (fun _ => 0))), ((u2 8), .inl (T.1, 10, .inl (zfl [-1, -1, -1, -1, -1, -1, -1, -1, -1, -1]))), (q3, .inr (4, [.ref (u4 1), .int 3, .int 0, .int 0, .int 0, .ref (u4 2), .ref (u4 3), .ref (u4 4), .int 0, .ref (u4 5), .ref (u4 6), .int 0, .int 0, .int 0, .ref (u4 7), .int 0, .int 1, .ref (u4 8)])), ((u4 1), .inl (T.1, 8, .inl (zfl [2, 5, 10, 20, 40, 80, 160, 64]))), ((u4 2), .inl (T.1, 8, .inl (fun _ => 0))), ((u4 3), .inl (T.1, 8, .inl (fun _ => 0))), ((u4 4), .inl (T.1, 8, .inl (fun _ => 0))), ((u4 5), .inl (T.1, 4, .inl (fun _ => 0))), ((u4 6), .inl (T.1, 4, .inl (fun _ => 0))), ((u4 7), .inl (T.1, 60, .inl (fun _ => 0))), ((u4 8), .inl (T.1, 10, .inl (zfl [-1, -1, -1, -1, -1, -1, -1, -1, -1, -1]))), (q5, .inr (4, [.ref (u6 1), .int 3, .int 0, .int 0, .int 0, .ref (u6 2), .ref (u6 3), .ref (u6 4), .int 0, .ref (u6 5), .ref (u6 6), .int 0, .int 0, .int 0, .ref (u6 7), .int 0, .int 1, .ref (u6 8)])), ((u6 1), .inl (T.1, 8, .inl (zfl [2, 5, 10, 20, 40, 80, 160, 64]))), ((u6 2), .inl (T.1, 8, .inl (fun _ => 0))), ((u6 3), .inl (T.1, 8, .inl (fun _ => 0))), ((u6 4), .inl (T.1, 8, .inl (fun _ => 0))), ((u6 5), .inl (T.1, 4, .inl (fun _ => 0))), ((u6 6), .inl (T.1, 4, .inl (fun _ => 0))), ((u6 7), .inl (T.1, 60, .inl (fun _ => 0))), ((u6 8), .inl (T.1, 10, .inl (zfl [-1, -1, -1, -1, -1, -1, -1, -1, -1, -1]))), (q7, .inr (0, [.ref (u8 1), .ref (u8 2), .ref (u8 3), .ref (u8 4)])), ((u8 1), .inl (T.2.1, 8, .inr (.inl (fun _ => 0)))), ((u8 2), .inl (T.2.1, 8, .inr (.inl (fun _ => 0)))), ((u8 3), .inl (T.2.1, 8, .inr (.inl (fun _ => 0)))), ((u8 4), .inl (T.1, 8, .inl (fun _ => 0))), ((u10 1), .inr (2, [.ref (u10 2), .int 0, .ref (u10 3), .ref (u10 4), .ref (u10 5), .int 0])), ((u10 2), .inl (T.1, 120, .inl (fun _ => 0))), ((u10 3), .inl (T.1, 120, .inl (fun _ => 0))), ((u10 4), .inl (T.1, 120, .inl (fun _ => 0))), ((u10 5), .inl (T.1, 120, .inl (fun _ => 0))), (q9, .inr (3, [.ref (u10 1), .ref (u10 6), .int 0, .int 0, .int 0, .int 0, .int 0])), ((u10 6), .inl (T.1, 120, .inl (fun _ => 0))), (q11, .inl (T.2.2, 4, .inr (.inr (.inr (.inr (va_up (va_up (fun _ => none) 0 (some q13)) 1 (some q15))))))), (q12, .inl (T.1, 7, .inl (fun _ => 0))), (q13, .inr (1, [.int 0, .int 0, .ref (u14 1)])), ((u14 1), .inl (T.1, 40, .inl (fun _ => 0))), (q15, .inr (1, [.int 0, .int 0, .ref (u16 1)])), ((u16 1), .inl (T.1, 40, .inl (fun _ => 0)))]) (x := (q17, .inr (1, [.int 0, .int 0, .null]))) hB rfl (fun _ _ _ _ _ => trivial) (fun _ _ _ _ _ _ _ => trivial) (mcX2_init (l := l) (D := D) (T := T) q17) hN.2.2.1 q2_X2_init q4_X2 q5_X2_init rfl qd_X2_init (by decide) rfl rfl (Nat.le_of_ble_eq_true rfl) (by decide) dX7_init_91 (fun u18 => ?_)
  refine zc_cs (cells' := 47) (slots' := 1173) rfl rfl ?_
  refine zc_ws (ws' := [(h0, .inr (5, [.ref q1, .ref q3, .ref q5, .int 0, .ref q7, .ref q9, .ref q11, .ref q12])), (q1, .inr (4, [.ref (u2 1), .int 3, .int 0, .int 0, .int 0, .ref (u2 2), .ref (u2 3), .ref (u2 4), .int 0, .ref (u2 5), .ref (u2 6), .int 0, .int 0, .int 0, .ref (u2 7), .int 0, .int 1, .ref (u2 8)])), ((u2 1), .inl (T.1, 8, .inl (zfl [2, 5, 10, 20, 40, 80, 160, 64]))), ((u2 2), .inl (T.1, 8, .inl (fun _ => 0))), ((u2 3), .inl (T.1, 8, .inl (fun _ => 0))), ((u2 4), .inl (T.1, 8, .inl (fun _ => 0))), ((u2 5), .inl (T.1, 4, .inl (fun _ => 0))), ((u2 6), .inl (T.1, 4, .inl (fun _ => 0))), ((u2 7), .inl (T.1, 60, .inl (fun _ => 0))), ((u2 8), .inl (T.1, 10, .inl (zfl [-1, -1, -1, -1, -1, -1, -1, -1, -1, -1]))), (q3, .inr (4, [.ref (u4 1), .int 3, .int 0, .int 0, .int 0, .ref (u4 2), .ref (u4 3), .ref (u4 4), .int 0, .ref (u4 5), .ref (u4 6), .int 0, .int 0, .int 0, .ref (u4 7), .int 0, .int 1, .ref (u4 8)])), ((u4 1), .inl (T.1, 8, .inl (zfl [2, 5, 10, 20, 40, 80, 160, 64]))), ((u4 2), .inl (T.1, 8, .inl (fun _ => 0))), ((u4 3), .inl (T.1, 8, .inl (fun _ => 0))), ((u4 4), .inl (T.1, 8, .inl (fun _ => 0))), ((u4 5), .inl (T.1, 4, .inl (fun _ => 0))), ((u4 6), .inl (T.1, 4, .inl (fun _ => 0))), ((u4 7), .inl (T.1, 60, .inl (fun _ => 0))), ((u4 8), .inl (T.1, 10, .inl (zfl [-1, -1, -1, -1, -1, -1, -1, -1, -1, -1]))), (q5, .inr (4, [.ref (u6 1), .int 3, .int 0, .int 0, .int 0, .ref (u6 2), .ref (u6 3), .ref (u6 4), .int 0, .ref (u6 5), .ref (u6 6), .int 0, .int 0, .int 0, .ref (u6 7), .int 0, .int 1, .ref (u6 8)])), ((u6 1), .inl (T.1, 8, .inl (zfl [2, 5, 10, 20, 40, 80, 160, 64]))), ((u6 2), .inl (T.1, 8, .inl (fun _ => 0))), ((u6 3), .inl (T.1, 8, .inl (fun _ => 0))), ((u6 4), .inl (T.1, 8, .inl (fun _ => 0))), ((u6 5), .inl (T.1, 4, .inl (fun _ => 0))), ((u6 6), .inl (T.1, 4, .inl (fun _ => 0))), ((u6 7), .inl (T.1, 60, .inl (fun _ => 0))), ((u6 8), .inl (T.1, 10, .inl (zfl [-1, -1, -1, -1, -1, -1, -1, -1, -1, -1]))), (q7, .inr (0, [.ref (u8 1), .ref (u8 2), .ref (u8 3), .ref (u8 4)])), ((u8 1), .inl (T.2.1, 8, .inr (.inl (fun _ => 0)))), ((u8 2), .inl (T.2.1, 8, .inr (.inl (fun _ => 0)))), ((u8 3), .inl (T.2.1, 8, .inr (.inl (fun _ => 0)))), ((u8 4), .inl (T.1, 8, .inl (fun _ => 0))), ((u10 1), .inr (2, [.ref (u10 2), .int 0, .ref (u10 3), .ref (u10 4), .ref (u10 5), .int 0])), ((u10 2), .inl (T.1, 120, .inl (fun _ => 0))), ((u10 3), .inl (T.1, 120, .inl (fun _ => 0))), ((u10 4), .inl (T.1, 120, .inl (fun _ => 0))), ((u10 5), .inl (T.1, 120, .inl (fun _ => 0))), (q9, .inr (3, [.ref (u10 1), .ref (u10 6), .int 0, .int 0, .int 0, .int 0, .int 0])), ((u10 6), .inl (T.1, 120, .inl (fun _ => 0))), (q11, .inl (T.2.2, 4, .inr (.inr (.inr (.inr (va_up (va_up (fun _ => none) 0 (some q13)) 1 (some q15))))))), (q12, .inl (T.1, 7, .inl (fun _ => 0))), (q13, .inr (1, [.int 0, .int 0, .ref (u14 1)])), ((u14 1), .inl (T.1, 40, .inl (fun _ => 0))), (q15, .inr (1, [.int 0, .int 0, .ref (u16 1)])), ((u16 1), .inl (T.1, 40, .inl (fun _ => 0))), (q17, .inr (1, [.int 0, .int 0, .ref (u18 1)])), ((u18 1), .inl (T.1, 40, .inl (fun _ => 0)))]) rfl ?_
  refine zc_ast (q0 := 40) (qk := 46) hB rfl rfl (by unfold vp_in; decide) dX7_init_94 ?_
  refine zc_ws (ws' := [(h0, .inr (5, [.ref q1, .ref q3, .ref q5, .int 0, .ref q7, .ref q9, .ref q11, .ref q12])), (q1, .inr (4, [.ref (u2 1), .int 3, .int 0, .int 0, .int 0, .ref (u2 2), .ref (u2 3), .ref (u2 4), .int 0, .ref (u2 5), .ref (u2 6), .int 0, .int 0, .int 0, .ref (u2 7), .int 0, .int 1, .ref (u2 8)])), ((u2 1), .inl (T.1, 8, .inl (zfl [2, 5, 10, 20, 40, 80, 160, 64]))), ((u2 2), .inl (T.1, 8, .inl (fun _ => 0))), ((u2 3), .inl (T.1, 8, .inl (fun _ => 0))), ((u2 4), .inl (T.1, 8, .inl (fun _ => 0))), ((u2 5), .inl (T.1, 4, .inl (fun _ => 0))), ((u2 6), .inl (T.1, 4, .inl (fun _ => 0))), ((u2 7), .inl (T.1, 60, .inl (fun _ => 0))), ((u2 8), .inl (T.1, 10, .inl (zfl [-1, -1, -1, -1, -1, -1, -1, -1, -1, -1]))), (q3, .inr (4, [.ref (u4 1), .int 3, .int 0, .int 0, .int 0, .ref (u4 2), .ref (u4 3), .ref (u4 4), .int 0, .ref (u4 5), .ref (u4 6), .int 0, .int 0, .int 0, .ref (u4 7), .int 0, .int 1, .ref (u4 8)])), ((u4 1), .inl (T.1, 8, .inl (zfl [2, 5, 10, 20, 40, 80, 160, 64]))), ((u4 2), .inl (T.1, 8, .inl (fun _ => 0))), ((u4 3), .inl (T.1, 8, .inl (fun _ => 0))), ((u4 4), .inl (T.1, 8, .inl (fun _ => 0))), ((u4 5), .inl (T.1, 4, .inl (fun _ => 0))), ((u4 6), .inl (T.1, 4, .inl (fun _ => 0))), ((u4 7), .inl (T.1, 60, .inl (fun _ => 0))), ((u4 8), .inl (T.1, 10, .inl (zfl [-1, -1, -1, -1, -1, -1, -1, -1, -1, -1]))), (q5, .inr (4, [.ref (u6 1), .int 3, .int 0, .int 0, .int 0, .ref (u6 2), .ref (u6 3), .ref (u6 4), .int 0, .ref (u6 5), .ref (u6 6), .int 0, .int 0, .int 0, .ref (u6 7), .int 0, .int 1, .ref (u6 8)])), ((u6 1), .inl (T.1, 8, .inl (zfl [2, 5, 10, 20, 40, 80, 160, 64]))), ((u6 2), .inl (T.1, 8, .inl (fun _ => 0))), ((u6 3), .inl (T.1, 8, .inl (fun _ => 0))), ((u6 4), .inl (T.1, 8, .inl (fun _ => 0))), ((u6 5), .inl (T.1, 4, .inl (fun _ => 0))), ((u6 6), .inl (T.1, 4, .inl (fun _ => 0))), ((u6 7), .inl (T.1, 60, .inl (fun _ => 0))), ((u6 8), .inl (T.1, 10, .inl (zfl [-1, -1, -1, -1, -1, -1, -1, -1, -1, -1]))), (q7, .inr (0, [.ref (u8 1), .ref (u8 2), .ref (u8 3), .ref (u8 4)])), ((u8 1), .inl (T.2.1, 8, .inr (.inl (fun _ => 0)))), ((u8 2), .inl (T.2.1, 8, .inr (.inl (fun _ => 0)))), ((u8 3), .inl (T.2.1, 8, .inr (.inl (fun _ => 0)))), ((u8 4), .inl (T.1, 8, .inl (fun _ => 0))), ((u10 1), .inr (2, [.ref (u10 2), .int 0, .ref (u10 3), .ref (u10 4), .ref (u10 5), .int 0])), ((u10 2), .inl (T.1, 120, .inl (fun _ => 0))), ((u10 3), .inl (T.1, 120, .inl (fun _ => 0))), ((u10 4), .inl (T.1, 120, .inl (fun _ => 0))), ((u10 5), .inl (T.1, 120, .inl (fun _ => 0))), (q9, .inr (3, [.ref (u10 1), .ref (u10 6), .int 0, .int 0, .int 0, .int 0, .int 0])), ((u10 6), .inl (T.1, 120, .inl (fun _ => 0))), (q11, .inl (T.2.2, 4, .inr (.inr (.inr (.inr (va_up (va_up (va_up (fun _ => none) 0 (some q13)) 1 (some q15)) 2 (some q17))))))), (q12, .inl (T.1, 7, .inl (fun _ => 0))), (q13, .inr (1, [.int 0, .int 0, .ref (u14 1)])), ((u14 1), .inl (T.1, 40, .inl (fun _ => 0))), (q15, .inr (1, [.int 0, .int 0, .ref (u16 1)])), ((u16 1), .inl (T.1, 40, .inl (fun _ => 0))), (q17, .inr (1, [.int 0, .int 0, .ref (u18 1)])), ((u18 1), .inl (T.1, 40, .inl (fun _ => 0)))]) rfl ?_
  refine zc_iinc (lv' := [(1, .int 3), (0, .ref h0)]) (v := 3) hB (j := 0) rfl (by decide) (by decide) rfl dX7_init_95 ?_
  refine zc_goto (tgt := 77) hB (by decide) dX7_init_98 ?_
  refine zc_iload_n hB 0 rfl rfl dX7_init_77 ?_
  refine zc_iconst (v := 4) hB (by decide) dX7_init_78 ?_
  refine zc_geF (tgt := 101) hB (by decide) (by decide) dX7_init_79 ?_
  refine zc_aload_n hB 1 rfl rfl dX7_init_82 ?_
  refine zc_get_X7 (q0 := 0) (k := 6) (v := .ref q11) hB rfl (by decide) rfl rfl lf_X7_38 dX7_init_83 ?_
  refine zc_iload_n hB 0 rfl rfl dX7_init_86 ?_
  refine zc_new_X2 (fs := [.int 0, .int 0, .null]) hB zfs_X2 lc_X7_36 li_X2 q4_X2 (by decide) (by decide) dX7_init_87 (fun q19 => ?_)
  refine zc_cs (cells' := 48) (slots' := 1176) rfl rfl ?_
  refine zc_ws (ws' := [(h0, .inr (5, [.ref q1, .ref q3, .ref q5, .int 0, .ref q7, .ref q9, .ref q11, .ref q12])), (q1, .inr (4, [.ref (u2 1), .int 3, .int 0, .int 0, .int 0, .ref (u2 2), .ref (u2 3), .ref (u2 4), .int 0, .ref (u2 5), .ref (u2 6), .int 0, .int 0, .int 0, .ref (u2 7), .int 0, .int 1, .ref (u2 8)])), ((u2 1), .inl (T.1, 8, .inl (zfl [2, 5, 10, 20, 40, 80, 160, 64]))), ((u2 2), .inl (T.1, 8, .inl (fun _ => 0))), ((u2 3), .inl (T.1, 8, .inl (fun _ => 0))), ((u2 4), .inl (T.1, 8, .inl (fun _ => 0))), ((u2 5), .inl (T.1, 4, .inl (fun _ => 0))), ((u2 6), .inl (T.1, 4, .inl (fun _ => 0))), ((u2 7), .inl (T.1, 60, .inl (fun _ => 0))), ((u2 8), .inl (T.1, 10, .inl (zfl [-1, -1, -1, -1, -1, -1, -1, -1, -1, -1]))), (q3, .inr (4, [.ref (u4 1), .int 3, .int 0, .int 0, .int 0, .ref (u4 2), .ref (u4 3), .ref (u4 4), .int 0, .ref (u4 5), .ref (u4 6), .int 0, .int 0, .int 0, .ref (u4 7), .int 0, .int 1, .ref (u4 8)])), ((u4 1), .inl (T.1, 8, .inl (zfl [2, 5, 10, 20, 40, 80, 160, 64]))), ((u4 2), .inl (T.1, 8, .inl (fun _ => 0))), ((u4 3), .inl (T.1, 8, .inl (fun _ => 0))), ((u4 4), .inl (T.1, 8, .inl (fun _ => 0))), ((u4 5), .inl (T.1, 4, .inl (fun _ => 0))), ((u4 6), .inl (T.1, 4, .inl (fun _ => 0))), ((u4 7), .inl (T.1, 60, .inl (fun _ => 0))), ((u4 8), .inl (T.1, 10, .inl (zfl [-1, -1, -1, -1, -1, -1, -1, -1, -1, -1]))), (q5, .inr (4, [.ref (u6 1), .int 3, .int 0, .int 0, .int 0, .ref (u6 2), .ref (u6 3), .ref (u6 4), .int 0, .ref (u6 5), .ref (u6 6), .int 0, .int 0, .int 0, .ref (u6 7), .int 0, .int 1, .ref (u6 8)])), ((u6 1), .inl (T.1, 8, .inl (zfl [2, 5, 10, 20, 40, 80, 160, 64]))), ((u6 2), .inl (T.1, 8, .inl (fun _ => 0))), ((u6 3), .inl (T.1, 8, .inl (fun _ => 0))), ((u6 4), .inl (T.1, 8, .inl (fun _ => 0))), ((u6 5), .inl (T.1, 4, .inl (fun _ => 0))), ((u6 6), .inl (T.1, 4, .inl (fun _ => 0))), ((u6 7), .inl (T.1, 60, .inl (fun _ => 0))), ((u6 8), .inl (T.1, 10, .inl (zfl [-1, -1, -1, -1, -1, -1, -1, -1, -1, -1]))), (q7, .inr (0, [.ref (u8 1), .ref (u8 2), .ref (u8 3), .ref (u8 4)])), ((u8 1), .inl (T.2.1, 8, .inr (.inl (fun _ => 0)))), ((u8 2), .inl (T.2.1, 8, .inr (.inl (fun _ => 0)))), ((u8 3), .inl (T.2.1, 8, .inr (.inl (fun _ => 0)))), ((u8 4), .inl (T.1, 8, .inl (fun _ => 0))), ((u10 1), .inr (2, [.ref (u10 2), .int 0, .ref (u10 3), .ref (u10 4), .ref (u10 5), .int 0])), ((u10 2), .inl (T.1, 120, .inl (fun _ => 0))), ((u10 3), .inl (T.1, 120, .inl (fun _ => 0))), ((u10 4), .inl (T.1, 120, .inl (fun _ => 0))), ((u10 5), .inl (T.1, 120, .inl (fun _ => 0))), (q9, .inr (3, [.ref (u10 1), .ref (u10 6), .int 0, .int 0, .int 0, .int 0, .int 0])), ((u10 6), .inl (T.1, 120, .inl (fun _ => 0))), (q11, .inl (T.2.2, 4, .inr (.inr (.inr (.inr (va_up (va_up (va_up (fun _ => none) 0 (some q13)) 1 (some q15)) 2 (some q17))))))), (q12, .inl (T.1, 7, .inl (fun _ => 0))), (q13, .inr (1, [.int 0, .int 0, .ref (u14 1)])), ((u14 1), .inl (T.1, 40, .inl (fun _ => 0))), (q15, .inr (1, [.int 0, .int 0, .ref (u16 1)])), ((u16 1), .inl (T.1, 40, .inl (fun _ => 0))), (q17, .inr (1, [.int 0, .int 0, .ref (u18 1)])), ((u18 1), .inl (T.1, 40, .inl (fun _ => 0))), (q19, .inr (1, [.int 0, .int 0, .null]))]) rfl ?_
  refine zc_dup hB rfl dX7_init_90 ?_
  refine zc_callN (host := RX7) (X := fun _ => True) (st := [.ref q19, .int 3, .ref q11]) (As := []) (wr := [(h0, .inr (5, [.ref q1, .ref q3, .ref q5, .int 0, .ref q7, .ref q9, .ref q11, .ref q12])), (q1, .inr (4, [.ref (u2 1), .int 3, .int 0, .int 0, .int 0, .ref (u2 2), .ref (u2 3), .ref (u2 4), .int 0, .ref (u2 5), .ref (u2 6), .int 0, .int 0, .int 0, .ref (u2 7), .int 0, .int 1, .ref (u2 8)])), ((u2 1), .inl (T.1, 8, .inl (zfl [2, 5, 10, 20, 40, 80, 160, 64]))), ((u2 2), .inl (T.1, 8, .inl (fun _ => 0))), ((u2 3), .inl (T.1, 8, .inl (fun _ => 0))), ((u2 4), .inl (T.1, 8, .inl (fun _ => 0))), ((u2 5), .inl (T.1, 4, .inl (fun _ => 0))), ((u2 6), .inl (T.1, 4, .inl (fun _ => 0))), ((u2 7), .inl (T.1, 60, .inl (fun _ => 0))), ((u2 8), .inl (T.1, 10, .inl (zfl [-1, -1, -1, -1, -1, -1, -1, -1, -1, -1]))), (q3, .inr (4, [.ref (u4 1), .int 3, .int 0, .int 0, .int 0, .ref (u4 2), .ref (u4 3), .ref (u4 4), .int 0, .ref (u4 5), .ref (u4 6), .int 0, .int 0, .int 0, .ref (u4 7), .int 0, .int 1, .ref (u4 8)])), ((u4 1), .inl (T.1, 8, .inl (zfl [2, 5, 10, 20, 40, 80, 160, 64]))), ((u4 2), .inl (T.1, 8, .inl (fun _ => 0))), ((u4 3), .inl (T.1, 8, .inl (fun _ => 0))), ((u4 4), .inl (T.1, 8, .inl (fun _ => 0))), ((u4 5), .inl (T.1, 4, .inl (fun _ => 0))), ((u4 6), .inl (T.1, 4, .inl (fun _ => 0))), ((u4 7), .inl (T.1, 60, .inl (fun _ => 0))), ((u4 8), .inl (T.1, 10, .inl (zfl [-1, -1, -1, -1, -1, -1, -1, -1, -1, -1]))), (q5, .inr (4, [.ref (u6 1), .int 3, .int 0, .int 0, .int 0, .ref (u6 2), .ref (u6 3), .ref (u6 4), .int 0, .ref (u6 5), .ref (u6 6), .int 0, .int 0, .int 0, .ref (u6 7), .int 0, .int 1, .ref (u6 8)])), ((u6 1), .inl (T.1, 8, .inl (zfl [2, 5, 10, 20, 40, 80, 160, 64]))), ((u6 2), .inl (T.1, 8, .inl (fun _ => 0))), ((u6 3), .inl (T.1, 8, .inl (fun _ => 0))), ((u6 4), .inl (T.1, 8, .inl (fun _ => 0))), ((u6 5), .inl (T.1, 4, .inl (fun _ => 0))), ((u6 6), .inl (T.1, 4, .inl (fun _ => 0))), ((u6 7), .inl (T.1, 60, .inl (fun _ => 0))), ((u6 8), .inl (T.1, 10, .inl (zfl [-1, -1, -1, -1, -1, -1, -1, -1, -1, -1]))), (q7, .inr (0, [.ref (u8 1), .ref (u8 2), .ref (u8 3), .ref (u8 4)])), ((u8 1), .inl (T.2.1, 8, .inr (.inl (fun _ => 0)))), ((u8 2), .inl (T.2.1, 8, .inr (.inl (fun _ => 0)))), ((u8 3), .inl (T.2.1, 8, .inr (.inl (fun _ => 0)))), ((u8 4), .inl (T.1, 8, .inl (fun _ => 0))), ((u10 1), .inr (2, [.ref (u10 2), .int 0, .ref (u10 3), .ref (u10 4), .ref (u10 5), .int 0])), ((u10 2), .inl (T.1, 120, .inl (fun _ => 0))), ((u10 3), .inl (T.1, 120, .inl (fun _ => 0))), ((u10 4), .inl (T.1, 120, .inl (fun _ => 0))), ((u10 5), .inl (T.1, 120, .inl (fun _ => 0))), (q9, .inr (3, [.ref (u10 1), .ref (u10 6), .int 0, .int 0, .int 0, .int 0, .int 0])), ((u10 6), .inl (T.1, 120, .inl (fun _ => 0))), (q11, .inl (T.2.2, 4, .inr (.inr (.inr (.inr (va_up (va_up (va_up (fun _ => none) 0 (some q13)) 1 (some q15)) 2 (some q17))))))), (q12, .inl (T.1, 7, .inl (fun _ => 0))), (q13, .inr (1, [.int 0, .int 0, .ref (u14 1)])), ((u14 1), .inl (T.1, 40, .inl (fun _ => 0))), (q15, .inr (1, [.int 0, .int 0, .ref (u16 1)])), ((u16 1), .inl (T.1, 40, .inl (fun _ => 0))), (q17, .inr (1, [.int 0, .int 0, .ref (u18 1)])), ((u18 1), .inl (T.1, 40, .inl (fun _ => 0)))]) (x := (q19, .inr (1, [.int 0, .int 0, .null]))) hB rfl (fun _ _ _ _ _ => trivial) (fun _ _ _ _ _ _ _ => trivial) (mcX2_init (l := l) (D := D) (T := T) q19) hN.2.2.1 q2_X2_init q4_X2 q5_X2_init rfl qd_X2_init (by decide) rfl rfl (Nat.le_of_ble_eq_true rfl) (by decide) dX7_init_91 (fun u20 => ?_)
  refine zc_cs (cells' := 49) (slots' := 1216) rfl rfl ?_
  refine zc_ws (ws' := [(h0, .inr (5, [.ref q1, .ref q3, .ref q5, .int 0, .ref q7, .ref q9, .ref q11, .ref q12])), (q1, .inr (4, [.ref (u2 1), .int 3, .int 0, .int 0, .int 0, .ref (u2 2), .ref (u2 3), .ref (u2 4), .int 0, .ref (u2 5), .ref (u2 6), .int 0, .int 0, .int 0, .ref (u2 7), .int 0, .int 1, .ref (u2 8)])), ((u2 1), .inl (T.1, 8, .inl (zfl [2, 5, 10, 20, 40, 80, 160, 64]))), ((u2 2), .inl (T.1, 8, .inl (fun _ => 0))), ((u2 3), .inl (T.1, 8, .inl (fun _ => 0))), ((u2 4), .inl (T.1, 8, .inl (fun _ => 0))), ((u2 5), .inl (T.1, 4, .inl (fun _ => 0))), ((u2 6), .inl (T.1, 4, .inl (fun _ => 0))), ((u2 7), .inl (T.1, 60, .inl (fun _ => 0))), ((u2 8), .inl (T.1, 10, .inl (zfl [-1, -1, -1, -1, -1, -1, -1, -1, -1, -1]))), (q3, .inr (4, [.ref (u4 1), .int 3, .int 0, .int 0, .int 0, .ref (u4 2), .ref (u4 3), .ref (u4 4), .int 0, .ref (u4 5), .ref (u4 6), .int 0, .int 0, .int 0, .ref (u4 7), .int 0, .int 1, .ref (u4 8)])), ((u4 1), .inl (T.1, 8, .inl (zfl [2, 5, 10, 20, 40, 80, 160, 64]))), ((u4 2), .inl (T.1, 8, .inl (fun _ => 0))), ((u4 3), .inl (T.1, 8, .inl (fun _ => 0))), ((u4 4), .inl (T.1, 8, .inl (fun _ => 0))), ((u4 5), .inl (T.1, 4, .inl (fun _ => 0))), ((u4 6), .inl (T.1, 4, .inl (fun _ => 0))), ((u4 7), .inl (T.1, 60, .inl (fun _ => 0))), ((u4 8), .inl (T.1, 10, .inl (zfl [-1, -1, -1, -1, -1, -1, -1, -1, -1, -1]))), (q5, .inr (4, [.ref (u6 1), .int 3, .int 0, .int 0, .int 0, .ref (u6 2), .ref (u6 3), .ref (u6 4), .int 0, .ref (u6 5), .ref (u6 6), .int 0, .int 0, .int 0, .ref (u6 7), .int 0, .int 1, .ref (u6 8)])), ((u6 1), .inl (T.1, 8, .inl (zfl [2, 5, 10, 20, 40, 80, 160, 64]))), ((u6 2), .inl (T.1, 8, .inl (fun _ => 0))), ((u6 3), .inl (T.1, 8, .inl (fun _ => 0))), ((u6 4), .inl (T.1, 8, .inl (fun _ => 0))), ((u6 5), .inl (T.1, 4, .inl (fun _ => 0))), ((u6 6), .inl (T.1, 4, .inl (fun _ => 0))), ((u6 7), .inl (T.1, 60, .inl (fun _ => 0))), ((u6 8), .inl (T.1, 10, .inl (zfl [-1, -1, -1, -1, -1, -1, -1, -1, -1, -1]))), (q7, .inr (0, [.ref (u8 1), .ref (u8 2), .ref (u8 3), .ref (u8 4)])), ((u8 1), .inl (T.2.1, 8, .inr (.inl (fun _ => 0)))), ((u8 2), .inl (T.2.1, 8, .inr (.inl (fun _ => 0)))), ((u8 3), .inl (T.2.1, 8, .inr (.inl (fun _ => 0)))), ((u8 4), .inl (T.1, 8, .inl (fun _ => 0))), ((u10 1), .inr (2, [.ref (u10 2), .int 0, .ref (u10 3), .ref (u10 4), .ref (u10 5), .int 0])), ((u10 2), .inl (T.1, 120, .inl (fun _ => 0))), ((u10 3), .inl (T.1, 120, .inl (fun _ => 0))), ((u10 4), .inl (T.1, 120, .inl (fun _ => 0))), ((u10 5), .inl (T.1, 120, .inl (fun _ => 0))), (q9, .inr (3, [.ref (u10 1), .ref (u10 6), .int 0, .int 0, .int 0, .int 0, .int 0])), ((u10 6), .inl (T.1, 120, .inl (fun _ => 0))), (q11, .inl (T.2.2, 4, .inr (.inr (.inr (.inr (va_up (va_up (va_up (fun _ => none) 0 (some q13)) 1 (some q15)) 2 (some q17))))))), (q12, .inl (T.1, 7, .inl (fun _ => 0))), (q13, .inr (1, [.int 0, .int 0, .ref (u14 1)])), ((u14 1), .inl (T.1, 40, .inl (fun _ => 0))), (q15, .inr (1, [.int 0, .int 0, .ref (u16 1)])), ((u16 1), .inl (T.1, 40, .inl (fun _ => 0))), (q17, .inr (1, [.int 0, .int 0, .ref (u18 1)])), ((u18 1), .inl (T.1, 40, .inl (fun _ => 0))), (q19, .inr (1, [.int 0, .int 0, .ref (u20 1)])), ((u20 1), .inl (T.1, 40, .inl (fun _ => 0)))]) rfl ?_
  refine zc_ast (q0 := 40) (qk := 48) hB rfl rfl (by unfold vp_in; decide) dX7_init_94 ?_
  refine zc_ws (ws' := [(h0, .inr (5, [.ref q1, .ref q3, .ref q5, .int 0, .ref q7, .ref q9, .ref q11, .ref q12])), (q1, .inr (4, [.ref (u2 1), .int 3, .int 0, .int 0, .int 0, .ref (u2 2), .ref (u2 3), .ref (u2 4), .int 0, .ref (u2 5), .ref (u2 6), .int 0, .int 0, .int 0, .ref (u2 7), .int 0, .int 1, .ref (u2 8)])), ((u2 1), .inl (T.1, 8, .inl (zfl [2, 5, 10, 20, 40, 80, 160, 64]))), ((u2 2), .inl (T.1, 8, .inl (fun _ => 0))), ((u2 3), .inl (T.1, 8, .inl (fun _ => 0))), ((u2 4), .inl (T.1, 8, .inl (fun _ => 0))), ((u2 5), .inl (T.1, 4, .inl (fun _ => 0))), ((u2 6), .inl (T.1, 4, .inl (fun _ => 0))), ((u2 7), .inl (T.1, 60, .inl (fun _ => 0))), ((u2 8), .inl (T.1, 10, .inl (zfl [-1, -1, -1, -1, -1, -1, -1, -1, -1, -1]))), (q3, .inr (4, [.ref (u4 1), .int 3, .int 0, .int 0, .int 0, .ref (u4 2), .ref (u4 3), .ref (u4 4), .int 0, .ref (u4 5), .ref (u4 6), .int 0, .int 0, .int 0, .ref (u4 7), .int 0, .int 1, .ref (u4 8)])), ((u4 1), .inl (T.1, 8, .inl (zfl [2, 5, 10, 20, 40, 80, 160, 64]))), ((u4 2), .inl (T.1, 8, .inl (fun _ => 0))), ((u4 3), .inl (T.1, 8, .inl (fun _ => 0))), ((u4 4), .inl (T.1, 8, .inl (fun _ => 0))), ((u4 5), .inl (T.1, 4, .inl (fun _ => 0))), ((u4 6), .inl (T.1, 4, .inl (fun _ => 0))), ((u4 7), .inl (T.1, 60, .inl (fun _ => 0))), ((u4 8), .inl (T.1, 10, .inl (zfl [-1, -1, -1, -1, -1, -1, -1, -1, -1, -1]))), (q5, .inr (4, [.ref (u6 1), .int 3, .int 0, .int 0, .int 0, .ref (u6 2), .ref (u6 3), .ref (u6 4), .int 0, .ref (u6 5), .ref (u6 6), .int 0, .int 0, .int 0, .ref (u6 7), .int 0, .int 1, .ref (u6 8)])), ((u6 1), .inl (T.1, 8, .inl (zfl [2, 5, 10, 20, 40, 80, 160, 64]))), ((u6 2), .inl (T.1, 8, .inl (fun _ => 0))), ((u6 3), .inl (T.1, 8, .inl (fun _ => 0))), ((u6 4), .inl (T.1, 8, .inl (fun _ => 0))), ((u6 5), .inl (T.1, 4, .inl (fun _ => 0))), ((u6 6), .inl (T.1, 4, .inl (fun _ => 0))), ((u6 7), .inl (T.1, 60, .inl (fun _ => 0))), ((u6 8), .inl (T.1, 10, .inl (zfl [-1, -1, -1, -1, -1, -1, -1, -1, -1, -1]))), (q7, .inr (0, [.ref (u8 1), .ref (u8 2), .ref (u8 3), .ref (u8 4)])), ((u8 1), .inl (T.2.1, 8, .inr (.inl (fun _ => 0)))), ((u8 2), .inl (T.2.1, 8, .inr (.inl (fun _ => 0)))), ((u8 3), .inl (T.2.1, 8, .inr (.inl (fun _ => 0)))), ((u8 4), .inl (T.1, 8, .inl (fun _ => 0))), ((u10 1), .inr (2, [.ref (u10 2), .int 0, .ref (u10 3), .ref (u10 4), .ref (u10 5), .int 0])), ((u10 2), .inl (T.1, 120, .inl (fun _ => 0))), ((u10 3), .inl (T.1, 120, .inl (fun _ => 0))), ((u10 4), .inl (T.1, 120, .inl (fun _ => 0))), ((u10 5), .inl (T.1, 120, .inl (fun _ => 0))), (q9, .inr (3, [.ref (u10 1), .ref (u10 6), .int 0, .int 0, .int 0, .int 0, .int 0])), ((u10 6), .inl (T.1, 120, .inl (fun _ => 0))), (q11, .inl (T.2.2, 4, .inr (.inr (.inr (.inr (va_up (va_up (va_up (va_up (fun _ => none) 0 (some q13)) 1 (some q15)) 2 (some q17)) 3 (some q19))))))), (q12, .inl (T.1, 7, .inl (fun _ => 0))), (q13, .inr (1, [.int 0, .int 0, .ref (u14 1)])), ((u14 1), .inl (T.1, 40, .inl (fun _ => 0))), (q15, .inr (1, [.int 0, .int 0, .ref (u16 1)])), ((u16 1), .inl (T.1, 40, .inl (fun _ => 0))), (q17, .inr (1, [.int 0, .int 0, .ref (u18 1)])), ((u18 1), .inl (T.1, 40, .inl (fun _ => 0))), (q19, .inr (1, [.int 0, .int 0, .ref (u20 1)])), ((u20 1), .inl (T.1, 40, .inl (fun _ => 0)))]) rfl ?_
  refine zc_iinc (lv' := [(1, .int 4), (0, .ref h0)]) (v := 4) hB (j := 0) rfl (by decide) (by decide) rfl dX7_init_95 ?_
  refine zc_goto (tgt := 77) hB (by decide) dX7_init_98 ?_
  refine zc_iload_n hB 0 rfl rfl dX7_init_77 ?_
  refine zc_iconst (v := 4) hB (by decide) dX7_init_78 ?_
  refine zc_geT (tgt := 101) hB (by decide) (by decide) dX7_init_79 ?_
  refine zc_swap 40 (e2 := .inl (T.2.2, 4, .inr (.inr (.inr (.inr (fun k => some (zad0 h0 (fun i => [h0, q1, (u2 1), (u2 2), (u2 3), (u2 4), (u2 5), (u2 6), (u2 7), (u2 8), q3, (u4 1), (u4 2), (u4 3), (u4 4), (u4 5), (u4 6), (u4 7), (u4 8), q5, (u6 1), (u6 2), (u6 3), (u6 4), (u6 5), (u6 6), (u6 7), (u6 8), q7, (u8 1), (u8 2), (u8 3), (u8 4), (u10 1), (u10 2), (u10 3), (u10 4), (u10 5), q9, (u10 6), q11, q12, q13, (u14 1), q15, (u16 1), q17, (u18 1), q19, (u20 1)].getD i 0) (42 + 2 * k)))))))) rfl (fun H h => zat_q (fun k hk => ?_) h) ?_
  · rcases (show k = 0 ∨ k = 1 ∨ k = 2 ∨ k = 3 by omega) with rfl | rfl | rfl | rfl <;> rfl
  exact zc_vret hB (fun i => [h0, q1, (u2 1), (u2 2), (u2 3), (u2 4), (u2 5), (u2 6), (u2 7), (u2 8), q3, (u4 1), (u4 2), (u4 3), (u4 4), (u4 5), (u4 6), (u4 7), (u4 8), q5, (u6 1), (u6 2), (u6 3), (u6 4), (u6 5), (u6 6), (u6 7), (u6 8), q7, (u8 1), (u8 2), (u8 3), (u8 4), (u10 1), (u10 2), (u10 3), (u10 4), (u10 5), q9, (u10 6), q11, q12, q13, (u14 1), q15, (u16 1), q17, (u18 1), q19, (u20 1)].getD i 0) rfl rfl rfl dX7_init_101
def gX8_init_95  (s1 : Int32 × zI) : Option ((Int32 × zI) ⊕ (zI)) :=
  if 8 ≤ (s1.1 + 1) then
    some (.inr s1.2)
  else
  zb (fX8_opensDoor s1.1 (s1.1 + 1) 1 s1.2) fun o12 =>
  zl (s1.1 + 1) fun v13 =>
  some (.inl (v13, o12))
def gX8_init_136  (s16 : Int32 × zI) : Option ((Int32 × zI) ⊕ (zI)) :=
  if 10 ≤ s16.1 then
    some (.inr s16.2)
  else
  zg (18 + s16.1) 120 (
  zl (zup s16.2 51 (zn (18 + s16.1)) (-1)) fun J25 =>
  zl (s16.1 + 1) fun v26 =>
  some (.inl (v26, J25)))
def fX8_init (n : Nat) (I : zI) : Option zI :=
  zb (zit gX8_init_95 n (0, I)) fun x2 : zI =>
  zg 8 120 (
  zl (zup x2 51 (zn 8) 3) fun J14 =>
  zg 16 120 (
  zl (zup J14 51 (zn 16) 1) fun J15 =>
  zb (zit gX8_init_136 n (0, J15)) fun x17 : zI =>
  some x17))
def zadx (ad : Nat → Nat) (a0 : Nat) (u : Nat → Nat) : Nat → Nat := fun i => if i < 50 then ad i else if i = 50 then a0 else u i
theorem zc_ext0 {T : zT} {ad ax : Nat → Nat} (hx : ∀ j, j < 50 → ax j = ad j) {f : Nat → Int32} {g : Nat → Int64} : ∀ i : Nat, i < 50 → i ≠ 40 → zc T ax i f g = zc T ad i f g := fun i hi h40 =>
    match i, hi, h40 with
      | 0, _, _ => by simp only [zc, zf_X1, zf_X2, zf_X3, zf_X4, zf_X6, zf_X7, Nat.reduceAdd, hx 1 (by decide), hx 10 (by decide), hx 19 (by decide), hx 28 (by decide), hx 33 (by decide), hx 38 (by decide), hx 40 (by decide), hx 41 (by decide)]
      | 1, _, _ => by simp only [zc, zf_X1, zf_X2, zf_X3, zf_X4, zf_X6, zf_X7, Nat.reduceAdd, hx 2 (by decide), hx 3 (by decide), hx 4 (by decide), hx 5 (by decide), hx 6 (by decide), hx 7 (by decide), hx 8 (by decide), hx 9 (by decide)]
      | 2, _, _ => rfl
      | 3, _, _ => rfl
      | 4, _, _ => rfl
      | 5, _, _ => rfl
      | 6, _, _ => rfl
      | 7, _, _ => rfl
      | 8, _, _ => rfl
      | 9, _, _ => rfl
      | 10, _, _ => by simp only [zc, zf_X1, zf_X2, zf_X3, zf_X4, zf_X6, zf_X7, Nat.reduceAdd, hx 11 (by decide), hx 12 (by decide), hx 13 (by decide), hx 14 (by decide), hx 15 (by decide), hx 16 (by decide), hx 17 (by decide), hx 18 (by decide)]
      | 11, _, _ => rfl
      | 12, _, _ => rfl
      | 13, _, _ => rfl
      | 14, _, _ => rfl
      | 15, _, _ => rfl
      | 16, _, _ => rfl
      | 17, _, _ => rfl
      | 18, _, _ => rfl
      | 19, _, _ => by simp only [zc, zf_X1, zf_X2, zf_X3, zf_X4, zf_X6, zf_X7, Nat.reduceAdd, hx 20 (by decide), hx 21 (by decide), hx 22 (by decide), hx 23 (by decide), hx 24 (by decide), hx 25 (by decide), hx 26 (by decide), hx 27 (by decide)]
      | 20, _, _ => rfl
      | 21, _, _ => rfl
      | 22, _, _ => rfl
      | 23, _, _ => rfl
      | 24, _, _ => rfl
      | 25, _, _ => rfl
      | 26, _, _ => rfl
      | 27, _, _ => rfl
      | 28, _, _ => by simp only [zc, zf_X1, zf_X2, zf_X3, zf_X4, zf_X6, zf_X7, Nat.reduceAdd, hx 29 (by decide), hx 30 (by decide), hx 31 (by decide), hx 32 (by decide)]
      | 29, _, _ => rfl
      | 30, _, _ => rfl
      | 31, _, _ => rfl
      | 32, _, _ => rfl
      | 33, _, _ => by simp only [zc, zf_X1, zf_X2, zf_X3, zf_X4, zf_X6, zf_X7, Nat.reduceAdd, hx 34 (by decide), hx 35 (by decide), hx 36 (by decide), hx 37 (by decide)]
      | 34, _, _ => rfl
      | 35, _, _ => rfl
      | 36, _, _ => rfl
      | 37, _, _ => rfl
      | 38, _, _ => by simp only [zc, zf_X1, zf_X2, zf_X3, zf_X4, zf_X6, zf_X7, Nat.reduceAdd, hx 39 (by decide), hx 33 (by decide)]
      | 39, _, _ => rfl
      | 40, _, h => absurd rfl h
      | 41, _, _ => rfl
      | 42, _, _ => by simp only [zc, zf_X1, zf_X2, zf_X3, zf_X4, zf_X6, zf_X7, Nat.reduceAdd, hx 43 (by decide)]
      | 43, _, _ => rfl
      | 44, _, _ => by simp only [zc, zf_X1, zf_X2, zf_X3, zf_X4, zf_X6, zf_X7, Nat.reduceAdd, hx 45 (by decide)]
      | 45, _, _ => rfl
      | 46, _, _ => by simp only [zc, zf_X1, zf_X2, zf_X3, zf_X4, zf_X6, zf_X7, Nat.reduceAdd, hx 47 (by decide)]
      | 47, _, _ => rfl
      | 48, _, _ => by simp only [zc, zf_X1, zf_X2, zf_X3, zf_X4, zf_X6, zf_X7, Nat.reduceAdd, hx 49 (by decide)]
      | 49, _, _ => rfl
      | i + 50, hi, _ => absurd hi (by omega)
theorem zc_ext {T : zT} {ad ax : Nat → Nat} (hx : ∀ j, j < 50 → ax j = ad j) {D : va_G} {i : Nat} (hi : i < 50) {f : Nat → Int32} {g : Nat → Int64} {H : Heap} (h : va_at D vwCl (ad i, zc T ad i f g) H) : va_at D vwCl (ax i, zc T ax i f g) H := by
  rw [hx i hi]
  by_cases h40 : i = 40
  · subst h40
    exact zat_q (fun k hk => by rw [hx _ (by omega)]) h
  · rw [zc_ext0 hx i hi h40]
    exact h
theorem zWn_get {n : Nat} {T : zT} {ad : Nat → Nat} {I : zI} {L : zL} {i : Nat} (h : i < n) : (zWn n T ad I L)[i]? = some (ad i, zc T ad i (I i) (L i)) := by
  unfold zWn
  rw [List.getElem?_map, List.getElem?_range h]
  rfl
theorem zWn_len {n : Nat} {T : zT} {ad : Nat → Nat} {I : zI} {L : zL} : (zWn n T ad I L).length = n := by
  unfold zWn
  rw [List.length_map, List.length_range]
/-- from the grown world to the static one -/
theorem z_whole {T : zT} {ad ax : Nat → Nat} {D : va_G} {I : zI} {L : zL} {ws : va_W} {A : Nat → Prop} {H : Heap} (hx : ∀ j, j < 50 → ax j = ad j) (hc : ∀ k, k < 12 → ws[k]? = some (ax (50 + k), zc T ax (50 + k) (I (50 + k)) (L (50 + k)))) (hP : va_P D vwCl (zWn 50 T ad I L ++ ws) H) (hD : va_D A (zWn 50 T ad I L ++ ws)) : va_P D vwCl (zW T ax I L) H ∧ zInj ax ∧ ∀ q, zAd ax q → A q := by
  have hg : ∀ i, i < 62 → ∃ e, (zWn 50 T ad I L ++ ws)[i]? = some (ax i, e) ∧ (va_at D vwCl (ax i, e) H → va_at D vwCl (ax i, zc T ax i (I i) (L i)) H) := by
    intro i hi
    by_cases h : i < 50
    · refine ⟨zc T ad i (I i) (L i), ?_, fun q => ?_⟩
      · rw [List.getElem?_append_left (by rw [zWn_len]; exact h), zWn_get h, hx i h]
      · rw [hx i h] at q
        exact zc_ext hx h q
    · refine ⟨zc T ax i (I i) (L i), ?_, fun q => q⟩
      rw [List.getElem?_append_right (by rw [zWn_len]; omega), zWn_len, hc (i - 50) (by omega), show 50 + (i - 50) = i by omega]
  refine ⟨fun k q hq => ?_, fun i j hi hj he => ?_, fun q hq => ?_⟩
  · obtain ⟨h1, h2⟩ := zW_lt hq
    obtain ⟨e, h3, h4⟩ := hg k h1
    rw [zW_get h1] at hq
    cases hq
    exact h4 (hP k _ h3)
  · obtain ⟨e1, h1, -⟩ := hg i hi
    obtain ⟨e2, h2, -⟩ := hg j hj
    exact hD.1 i j _ _ h1 h2 he
  · obtain ⟨i, hi, rfl⟩ := hq
    obtain ⟨e1, h1, -⟩ := hg i hi
    exact hD.2 i _ h1
theorem zr_fin {α : Type} {p : Program} {l : Launch} {e : Env} {R : Room} {s : State} {m : MethodId} {args : Array Value} {below : List Frame} {meth : Method} {c : Code} {D : va_G} {T : zT} {ad sK sV : Nat → Nat} {A : Nat → Prop} {cc : ByteArray} {own : String} {nL cells slots : Nat} {pc : Nat} {lv : List (Nat × Value)} {I : zI} {L : zL} {K : α → Option zI} {y : α} {w0 : va_W} {w1 : zI → (Nat → Nat) → va_W} {u : Nat → Nat} {o0 : zI} (hB : zB p s m args meth c D T ad A sK sV cc own nL none) (hAe : A = va_A w0 s.heap.size ∧ ∀ J, zW T ad J L = w1 J u) (hk : K y = some o0) (ho : o0 = I) (d : decode cc pc = .ok (.return_, 1)) : zZ p l e R s m args below meth c D T ad A nL cells slots (fun J => MQ below (fun _ st oc t => oc = .returned none ∧ (∃ u : Nat → Nat, va_P D vwCl (w1 J u) t.heap ∧ va_D (va_A w0 s.heap.size) (w1 J u)) ∧ va_F (va_A w0 s.heap.size) st t) args s cells slots (va_A w0 s.heap.size)) pc lv [] I L K (some y) := by
  intro o ho2 H locs ls hP hS hl
  have ho3 : some o0 = some o := hk ▸ ho2
  cases ho3
  subst ho
  obtain ⟨hA1, hw⟩ := hAe
  subst hA1
  have hD : va_D (va_A w0 s.heap.size) (zW T ad o0 L) := zW_DA hB.2.2.2.2.2.2.2.2.1 hB.2.2.2.2.2.2.2.2.2
  exact W.vret hB.1 hB.2.1 hB.2.2.1 (fun t ht hW => ⟨rfl, ⟨u, by rw [ht, ← hw]; exact hP, by rw [← hw]; exact hD⟩, hS.F ht⟩) hS.2.2 d hB.2.2.2.2.2.2.1
set_option maxHeartbeats 8000000 in
set_option maxRecDepth 100000 in
theorem mX8_init_tail {p : Program} {l : Launch} {e : Env} {s : State} {m : MethodId} {args : Array Value} {below : List Frame} {meth : Method} {c : Code} {D : va_G} {T : zT} {ad sK sV : Nat → Nat} {A : Nat → Prop} {w0 : va_W} {w1 : zI → (Nat → Nat) → va_W} {u : Nat → Nat} (hB : zB p s m args meth c D T ad A sK sV cX8_init yX8_init.cls 2 none) (hAe : A = va_A w0 s.heap.size ∧ ∀ J, zW T ad J (fun _ _ => 0) = w1 J u) (n : Nat) (I : zI) : zZ p l e { frames := 1, cells := 11, slots := 1335, locals := 23 } s m args below meth c D T ad A 2 11 1335 (fun J => MQ below (fun _ st oc t => oc = .returned none ∧ (∃ u : Nat → Nat, va_P D vwCl (w1 J u) t.heap ∧ va_D (va_A w0 s.heap.size) (w1 J u)) ∧ va_F (va_A w0 s.heap.size) st t) args s 11 1335 (va_A w0 s.heap.size)) 93 [(0, .ref (ad 50))] [] I (fun _ _ => 0) some (fX8_init n I) := by
  have hi := hB.2.2.2.2.2.2.2.2.1
  unfold fX8_init
  refine zr_iconst (v := 0) hB (by decide) dX8_init_93 ?_
  refine zr_istore_n (lv' := [(1, .int 0), (0, .ref (ad 50))]) hB rfl (by decide) rfl dX8_init_94 ?_
  refine zr_join (pcJ := 118) (fun x2 : zI => [(0, .ref (ad 50))]) (fun _ => []) (fun x2 => x2) (fun x2 => (fun _ _ => 0)) (fun x2 => ?_) (fun K8 hx7 => ?_)
  · refine zr_aload_n hB 0 rfl rfl dX8_init_118 ?_
    refine zr_get_X8 (w := 50) (k := 0) (v := .ref (ad 51)) hB rfl (by decide) rfl lf_X8_9 rfl dX8_init_119 ?_
    refine zr_bipush (v := 8) hB (by decide) dX8_init_122 ?_
    refine zr_iconst (v := 3) hB (by decide) dX8_init_124 ?_
    refine zr_iastore hB zA_51 dX8_init_125 ?_
    refine zr_letM (fun J14 => ?_)
    refine zr_aload_n hB 0 rfl rfl dX8_init_126 ?_
    refine zr_get_X8 (w := 50) (k := 0) (v := .ref (ad 51)) hB rfl (by decide) rfl lf_X8_9 rfl dX8_init_127 ?_
    refine zr_bipush (v := 16) hB (by decide) dX8_init_130 ?_
    refine zr_iconst (v := 1) hB (by decide) dX8_init_132 ?_
    refine zr_iastore hB zA_51 dX8_init_133 ?_
    refine zr_letM (fun J15 => ?_)
    refine zr_iconst (v := 0) hB (by decide) dX8_init_134 ?_
    refine zr_istore_n (lv' := [(1, .int 0), (0, .ref (ad 50))]) hB rfl (by decide) rfl dX8_init_135 ?_
    refine zr_join (pcJ := 158) (fun x17 : zI => []) (fun _ => []) (fun x17 => x17) (fun x17 => (fun _ _ => 0)) (fun x17 => ?_) (fun K23 hx22 => ?_)
    · exact zr_fin hB hAe rfl rfl dX8_init_158
    · refine zr_sub (lv' := (fun s16 : Int32 × zI => [(1, .int s16.1), (0, .ref (ad 50))]) (0, J15)) [0, 1] rfl (zr_loop (fun s16 : Int32 × zI => [(1, .int s16.1), (0, .ref (ad 50))]) (fun s16 => s16.2) (fun s16 => (fun _ _ => 0)) (fun x17 : zI => []) (fun x17 => x17) (fun x17 => (fun _ _ => 0)) hx22 (fun s16 K24 hc18 hx19 => ?_) n (0, J15))
      unfold gX8_init_136
      refine zr_iload_n hB 0 rfl rfl dX8_init_136 ?_
      refine zr_bipush (v := 10) hB (by decide) dX8_init_137 ?_
      refine zr_icmp_ge (tgt := 158) hB (by decide) dX8_init_139 ?_ ?_
      · exact zr_sub [] rfl (hx19 s16.2)
      · refine zr_aload_n hB 1 rfl rfl dX8_init_142 ?_
        refine zr_get_X8 (w := 50) (k := 0) (v := .ref (ad 51)) hB rfl (by decide) rfl lf_X8_9 rfl dX8_init_143 ?_
        refine zr_bipush (v := 18) hB (by decide) dX8_init_146 ?_
        refine zr_iload_n hB 0 rfl rfl dX8_init_148 ?_
        refine zr_iadd hB dX8_init_149 ?_
        refine zr_iconst (v := (-1)) hB (by decide) dX8_init_150 ?_
        refine zr_iastore hB zA_51 dX8_init_151 ?_
        refine zr_letM (fun J25 => ?_)
        refine zr_iincL hB (j := 0) (n := 1) (w := 1) rfl (by decide) (by decide) dX8_init_152 (fun v26 lv' hlv => ?_)
        obtain rfl : lv' = [(1, .int v26), (0, .ref (ad 50))] := hlv.symm.trans rfl
        refine zr_goto (tgt := 136) hB (by decide) dX8_init_155 ?_
        exact zr_sub [0, 1] rfl (hc18 (v26, J25))
  · refine zr_sub (lv' := (fun s1 : Int32 × zI => [(1, .int s1.1), (0, .ref (ad 50))]) (0, I)) [0, 1] rfl (zr_loop (fun s1 : Int32 × zI => [(1, .int s1.1), (0, .ref (ad 50))]) (fun s1 => s1.2) (fun s1 => (fun _ _ => 0)) (fun x2 : zI => [(0, .ref (ad 50))]) (fun x2 => x2) (fun x2 => (fun _ _ => 0)) hx7 (fun s1 K9 hc3 hx4 => ?_) n (0, I))
    unfold gX8_init_95
    refine zr_iload_n hB 0 rfl rfl dX8_init_95 ?_
    refine zr_iconst (v := 1) hB (by decide) dX8_init_96 ?_
    refine zr_iadd hB dX8_init_97 ?_
    refine zr_bipush (v := 8) hB (by decide) dX8_init_98 ?_
    refine zr_icmp_ge (tgt := 118) hB (by decide) dX8_init_100 ?_ ?_
    · exact zr_sub [1] rfl (hx4 s1.2)
    · refine zr_aload_n hB 1 rfl rfl dX8_init_103 ?_
      refine zr_iload_n hB 0 rfl rfl dX8_init_104 ?_
      refine zr_iload_n hB 0 rfl rfl dX8_init_105 ?_
      refine zr_iconst (v := 1) hB (by decide) dX8_init_106 ?_
      refine zr_iadd hB dX8_init_107 ?_
      refine zr_iconst (v := 1) hB (by decide) dX8_init_108 ?_
      refine zr_callV (st := []) (C := RX8) (As := [.int s1.1, .int (s1.1 + 1), .int 1]) (embc := em_vI (fun _ _ => 0)) hB (mX8_opensDoor (sK := sK) (sV := sV) hi s1.1 (s1.1 + 1) 1 s1.2 (fun _ _ => 0)) (zW_X8 rfl) rfl rfl lm_X8_43 q2_X8_opensDoor q3_X8_opensDoor q4_X8 q5_X8_opensDoor qd_X8_opensDoor (by decide) rfl rfl (Nat.le_of_ble_eq_true rfl) ⟨Nat.le_refl _, Nat.le_refl _⟩ dX8_init_109 (zr_kvI (fun o12 => ?_))
      refine zr_iincL hB (j := 0) (n := 1) (w := 1) rfl (by decide) (by decide) dX8_init_112 (fun v13 lv' hlv => ?_)
      obtain rfl : lv' = [(1, .int v13), (0, .ref (ad 50))] := hlv.symm.trans rfl
      refine zr_goto (tgt := 95) hB (by decide) dX8_init_115 ?_
      exact zr_sub [0, 1] rfl (hc3 (v13, o12))
set_option maxHeartbeats 8000000 in
set_option maxRecDepth 100000 in
theorem mcX8_init {l : Launch} {D : va_G} {T : zT} {sK sV : Nat → Nat} (ad : Nat → Nat) (a0 n : Nat) (J : zI) (hJ : fX8_init n zI0 = some J) : zMc l yX8_init cX8_init 2 1 23 11 1335 D T (fun U => zR sK sV (va_A (zWn 50 T ad zI0 (fun _ _ => 0) ++ [(a0, .inr (6, [.null, .null, .null, .int 0, .null, .int 0, .null, .null, .null, .int 0, .int 0, .int 0, .int 0, .int 0, .int 0, .int 0, .null, .null, .null, .null]))]) U.heap.size) U) [.ref a0] (zWn 50 T ad zI0 (fun _ _ => 0) ++ [(a0, .inr (6, [.null, .null, .null, .int 0, .null, .int 0, .null, .null, .null, .int 0, .int 0, .int 0, .int 0, .int 0, .int 0, .int 0, .null, .null, .null, .null]))]) (fun u => zW T (zadx ad a0 u) J (fun _ _ => 0)) := by
  refine zMc.of (by decide +kernel) (Nat.le_of_ble_eq_true rfl) (fun p e s m args below meth c _ hB hin hX => ?_)
  refine zc_aload_n hB 0 rfl rfl dX8_init_0 ?_
  refine zc_obj hB lm_X8_3 (by decide) (by decide) dX8_init_1 ?_
  refine zc_aload_n hB 0 rfl rfl dX8_init_4 ?_
  refine zc_bipush (v := 120) hB (by decide) dX8_init_5 ?_
  refine zc_newa (N := 120) hB (by decide) (by decide) (by decide) (by decide) (by decide) dX8_init_7 (fun q1 => ?_)
  refine zc_cs (cells' := 1) (slots' := 120) rfl rfl ?_
  refine zc_ws (ws' := (zWn 50 T ad zI0 (fun _ _ => 0) ++ [(a0, .inr (6, [.null, .null, .null, .int 0, .null, .int 0, .null, .null, .null, .int 0, .int 0, .int 0, .int 0, .int 0, .int 0, .int 0, .null, .null, .null, .null])), (q1, .inl (T.1, 120, .inl (fun _ => 0)))])) rfl ?_
  refine zc_putF_X8 (q0 := 50) (k := 0) (ty := tyX8 0) hB hin rfl (by decide) rfl (tyX8_ok 0 (by decide)) rfl rfl rfl rfl rfl lf_X8_9 dX8_init_9 ?_
  refine zc_ws (ws' := (zWn 50 T ad zI0 (fun _ _ => 0) ++ [(a0, .inr (6, [.ref q1, .null, .null, .int 0, .null, .int 0, .null, .null, .null, .int 0, .int 0, .int 0, .int 0, .int 0, .int 0, .int 0, .null, .null, .null, .null])), (q1, .inl (T.1, 120, .inl (fun _ => 0)))])) rfl ?_
  refine zc_aload_n hB 0 rfl rfl dX8_init_12 ?_
  refine zc_bipush (v := 120) hB (by decide) dX8_init_13 ?_
  refine zc_newa (N := 120) hB (by decide) (by decide) (by decide) (by decide) (by decide) dX8_init_15 (fun q2 => ?_)
  refine zc_cs (cells' := 2) (slots' := 240) rfl rfl ?_
  refine zc_ws (ws' := (zWn 50 T ad zI0 (fun _ _ => 0) ++ [(a0, .inr (6, [.ref q1, .null, .null, .int 0, .null, .int 0, .null, .null, .null, .int 0, .int 0, .int 0, .int 0, .int 0, .int 0, .int 0, .null, .null, .null, .null])), (q1, .inl (T.1, 120, .inl (fun _ => 0))), (q2, .inl (T.1, 120, .inl (fun _ => 0)))])) rfl ?_
  refine zc_putF_X8 (q0 := 50) (k := 1) (ty := tyX8 1) hB hin rfl (by decide) rfl (tyX8_ok 1 (by decide)) rfl rfl rfl rfl rfl lf_X8_13 dX8_init_17 ?_
  refine zc_ws (ws' := (zWn 50 T ad zI0 (fun _ _ => 0) ++ [(a0, .inr (6, [.ref q1, .ref q2, .null, .int 0, .null, .int 0, .null, .null, .null, .int 0, .int 0, .int 0, .int 0, .int 0, .int 0, .int 0, .null, .null, .null, .null])), (q1, .inl (T.1, 120, .inl (fun _ => 0))), (q2, .inl (T.1, 120, .inl (fun _ => 0)))])) rfl ?_
  refine zc_aload_n hB 0 rfl rfl dX8_init_20 ?_
  refine zc_bipush (v := 120) hB (by decide) dX8_init_21 ?_
  refine zc_newa (N := 120) hB (by decide) (by decide) (by decide) (by decide) (by decide) dX8_init_23 (fun q3 => ?_)
  refine zc_cs (cells' := 3) (slots' := 360) rfl rfl ?_
  refine zc_ws (ws' := (zWn 50 T ad zI0 (fun _ _ => 0) ++ [(a0, .inr (6, [.ref q1, .ref q2, .null, .int 0, .null, .int 0, .null, .null, .null, .int 0, .int 0, .int 0, .int 0, .int 0, .int 0, .int 0, .null, .null, .null, .null])), (q1, .inl (T.1, 120, .inl (fun _ => 0))), (q2, .inl (T.1, 120, .inl (fun _ => 0))), (q3, .inl (T.1, 120, .inl (fun _ => 0)))])) rfl ?_
  refine zc_putF_X8 (q0 := 50) (k := 2) (ty := tyX8 2) hB hin rfl (by decide) rfl (tyX8_ok 2 (by decide)) rfl rfl rfl rfl rfl lf_X8_16 dX8_init_25 ?_
  refine zc_ws (ws' := (zWn 50 T ad zI0 (fun _ _ => 0) ++ [(a0, .inr (6, [.ref q1, .ref q2, .ref q3, .int 0, .null, .int 0, .null, .null, .null, .int 0, .int 0, .int 0, .int 0, .int 0, .int 0, .int 0, .null, .null, .null, .null])), (q1, .inl (T.1, 120, .inl (fun _ => 0))), (q2, .inl (T.1, 120, .inl (fun _ => 0))), (q3, .inl (T.1, 120, .inl (fun _ => 0)))])) rfl ?_
  refine zc_aload_n hB 0 rfl rfl dX8_init_28 ?_
  refine zc_bipush (v := 120) hB (by decide) dX8_init_29 ?_
  refine zc_newa (N := 120) hB (by decide) (by decide) (by decide) (by decide) (by decide) dX8_init_31 (fun q4 => ?_)
  refine zc_cs (cells' := 4) (slots' := 480) rfl rfl ?_
  refine zc_ws (ws' := (zWn 50 T ad zI0 (fun _ _ => 0) ++ [(a0, .inr (6, [.ref q1, .ref q2, .ref q3, .int 0, .null, .int 0, .null, .null, .null, .int 0, .int 0, .int 0, .int 0, .int 0, .int 0, .int 0, .null, .null, .null, .null])), (q1, .inl (T.1, 120, .inl (fun _ => 0))), (q2, .inl (T.1, 120, .inl (fun _ => 0))), (q3, .inl (T.1, 120, .inl (fun _ => 0))), (q4, .inl (T.1, 120, .inl (fun _ => 0)))])) rfl ?_
  refine zc_putF_X8 (q0 := 50) (k := 4) (ty := tyX8 4) hB hin rfl (by decide) rfl (tyX8_ok 4 (by decide)) rfl rfl rfl rfl rfl lf_X8_19 dX8_init_33 ?_
  refine zc_ws (ws' := (zWn 50 T ad zI0 (fun _ _ => 0) ++ [(a0, .inr (6, [.ref q1, .ref q2, .ref q3, .int 0, .ref q4, .int 0, .null, .null, .null, .int 0, .int 0, .int 0, .int 0, .int 0, .int 0, .int 0, .null, .null, .null, .null])), (q1, .inl (T.1, 120, .inl (fun _ => 0))), (q2, .inl (T.1, 120, .inl (fun _ => 0))), (q3, .inl (T.1, 120, .inl (fun _ => 0))), (q4, .inl (T.1, 120, .inl (fun _ => 0)))])) rfl ?_
  refine zc_aload_n hB 0 rfl rfl dX8_init_36 ?_
  refine zc_bipush (v := 7) hB (by decide) dX8_init_37 ?_
  refine zc_newa (N := 7) hB (by decide) (by decide) (by decide) (by decide) (by decide) dX8_init_39 (fun q5 => ?_)
  refine zc_cs (cells' := 5) (slots' := 487) rfl rfl ?_
  refine zc_ws (ws' := (zWn 50 T ad zI0 (fun _ _ => 0) ++ [(a0, .inr (6, [.ref q1, .ref q2, .ref q3, .int 0, .ref q4, .int 0, .null, .null, .null, .int 0, .int 0, .int 0, .int 0, .int 0, .int 0, .int 0, .null, .null, .null, .null])), (q1, .inl (T.1, 120, .inl (fun _ => 0))), (q2, .inl (T.1, 120, .inl (fun _ => 0))), (q3, .inl (T.1, 120, .inl (fun _ => 0))), (q4, .inl (T.1, 120, .inl (fun _ => 0))), (q5, .inl (T.1, 7, .inl (fun _ => 0)))])) rfl ?_
  refine zc_putF_X8 (q0 := 50) (k := 6) (ty := tyX8 6) hB hin rfl (by decide) rfl (tyX8_ok 6 (by decide)) rfl rfl rfl rfl rfl lf_X8_22 dX8_init_41 ?_
  refine zc_ws (ws' := (zWn 50 T ad zI0 (fun _ _ => 0) ++ [(a0, .inr (6, [.ref q1, .ref q2, .ref q3, .int 0, .ref q4, .int 0, .ref q5, .null, .null, .int 0, .int 0, .int 0, .int 0, .int 0, .int 0, .int 0, .null, .null, .null, .null])), (q1, .inl (T.1, 120, .inl (fun _ => 0))), (q2, .inl (T.1, 120, .inl (fun _ => 0))), (q3, .inl (T.1, 120, .inl (fun _ => 0))), (q4, .inl (T.1, 120, .inl (fun _ => 0))), (q5, .inl (T.1, 7, .inl (fun _ => 0)))])) rfl ?_
  refine zc_aload_n hB 0 rfl rfl dX8_init_44 ?_
  refine zc_sipush (v := 320) hB (by decide) dX8_init_45 ?_
  refine zc_newa (N := 320) hB (by decide) (by decide) (by decide) (by decide) (by decide) dX8_init_48 (fun q6 => ?_)
  refine zc_cs (cells' := 6) (slots' := 807) rfl rfl ?_
  refine zc_ws (ws' := (zWn 50 T ad zI0 (fun _ _ => 0) ++ [(a0, .inr (6, [.ref q1, .ref q2, .ref q3, .int 0, .ref q4, .int 0, .ref q5, .null, .null, .int 0, .int 0, .int 0, .int 0, .int 0, .int 0, .int 0, .null, .null, .null, .null])), (q1, .inl (T.1, 120, .inl (fun _ => 0))), (q2, .inl (T.1, 120, .inl (fun _ => 0))), (q3, .inl (T.1, 120, .inl (fun _ => 0))), (q4, .inl (T.1, 120, .inl (fun _ => 0))), (q5, .inl (T.1, 7, .inl (fun _ => 0))), (q6, .inl (T.1, 320, .inl (fun _ => 0)))])) rfl ?_
  refine zc_putF_X8 (q0 := 50) (k := 7) (ty := tyX8 7) hB hin rfl (by decide) rfl (tyX8_ok 7 (by decide)) rfl rfl rfl rfl rfl lf_X8_25 dX8_init_50 ?_
  refine zc_ws (ws' := (zWn 50 T ad zI0 (fun _ _ => 0) ++ [(a0, .inr (6, [.ref q1, .ref q2, .ref q3, .int 0, .ref q4, .int 0, .ref q5, .ref q6, .null, .int 0, .int 0, .int 0, .int 0, .int 0, .int 0, .int 0, .null, .null, .null, .null])), (q1, .inl (T.1, 120, .inl (fun _ => 0))), (q2, .inl (T.1, 120, .inl (fun _ => 0))), (q3, .inl (T.1, 120, .inl (fun _ => 0))), (q4, .inl (T.1, 120, .inl (fun _ => 0))), (q5, .inl (T.1, 7, .inl (fun _ => 0))), (q6, .inl (T.1, 320, .inl (fun _ => 0)))])) rfl ?_
  refine zc_aload_n hB 0 rfl rfl dX8_init_53 ?_
  refine zc_sipush (v := 320) hB (by decide) dX8_init_54 ?_
  refine zc_newa (N := 320) hB (by decide) (by decide) (by decide) (by decide) (by decide) dX8_init_57 (fun q7 => ?_)
  refine zc_cs (cells' := 7) (slots' := 1127) rfl rfl ?_
  refine zc_ws (ws' := (zWn 50 T ad zI0 (fun _ _ => 0) ++ [(a0, .inr (6, [.ref q1, .ref q2, .ref q3, .int 0, .ref q4, .int 0, .ref q5, .ref q6, .null, .int 0, .int 0, .int 0, .int 0, .int 0, .int 0, .int 0, .null, .null, .null, .null])), (q1, .inl (T.1, 120, .inl (fun _ => 0))), (q2, .inl (T.1, 120, .inl (fun _ => 0))), (q3, .inl (T.1, 120, .inl (fun _ => 0))), (q4, .inl (T.1, 120, .inl (fun _ => 0))), (q5, .inl (T.1, 7, .inl (fun _ => 0))), (q6, .inl (T.1, 320, .inl (fun _ => 0))), (q7, .inl (T.1, 320, .inl (fun _ => 0)))])) rfl ?_
  refine zc_putF_X8 (q0 := 50) (k := 8) (ty := tyX8 8) hB hin rfl (by decide) rfl (tyX8_ok 8 (by decide)) rfl rfl rfl rfl rfl lf_X8_28 dX8_init_59 ?_
  refine zc_ws (ws' := (zWn 50 T ad zI0 (fun _ _ => 0) ++ [(a0, .inr (6, [.ref q1, .ref q2, .ref q3, .int 0, .ref q4, .int 0, .ref q5, .ref q6, .ref q7, .int 0, .int 0, .int 0, .int 0, .int 0, .int 0, .int 0, .null, .null, .null, .null])), (q1, .inl (T.1, 120, .inl (fun _ => 0))), (q2, .inl (T.1, 120, .inl (fun _ => 0))), (q3, .inl (T.1, 120, .inl (fun _ => 0))), (q4, .inl (T.1, 120, .inl (fun _ => 0))), (q5, .inl (T.1, 7, .inl (fun _ => 0))), (q6, .inl (T.1, 320, .inl (fun _ => 0))), (q7, .inl (T.1, 320, .inl (fun _ => 0)))])) rfl ?_
  refine zc_aload_n hB 0 rfl rfl dX8_init_62 ?_
  refine zc_iconst (v := 4) hB (by decide) dX8_init_63 ?_
  refine zc_newa (N := 4) hB (by decide) (by decide) (by decide) (by decide) (by decide) dX8_init_64 (fun q8 => ?_)
  refine zc_cs (cells' := 8) (slots' := 1131) rfl rfl ?_
  refine zc_ws (ws' := (zWn 50 T ad zI0 (fun _ _ => 0) ++ [(a0, .inr (6, [.ref q1, .ref q2, .ref q3, .int 0, .ref q4, .int 0, .ref q5, .ref q6, .ref q7, .int 0, .int 0, .int 0, .int 0, .int 0, .int 0, .int 0, .null, .null, .null, .null])), (q1, .inl (T.1, 120, .inl (fun _ => 0))), (q2, .inl (T.1, 120, .inl (fun _ => 0))), (q3, .inl (T.1, 120, .inl (fun _ => 0))), (q4, .inl (T.1, 120, .inl (fun _ => 0))), (q5, .inl (T.1, 7, .inl (fun _ => 0))), (q6, .inl (T.1, 320, .inl (fun _ => 0))), (q7, .inl (T.1, 320, .inl (fun _ => 0))), (q8, .inl (T.1, 4, .inl (fun _ => 0)))])) rfl ?_
  refine zc_putF_X8 (q0 := 50) (k := 16) (ty := tyX8 16) hB hin rfl (by decide) rfl (tyX8_ok 16 (by decide)) rfl rfl rfl rfl rfl lf_X8_31 dX8_init_66 ?_
  refine zc_ws (ws' := (zWn 50 T ad zI0 (fun _ _ => 0) ++ [(a0, .inr (6, [.ref q1, .ref q2, .ref q3, .int 0, .ref q4, .int 0, .ref q5, .ref q6, .ref q7, .int 0, .int 0, .int 0, .int 0, .int 0, .int 0, .int 0, .ref q8, .null, .null, .null])), (q1, .inl (T.1, 120, .inl (fun _ => 0))), (q2, .inl (T.1, 120, .inl (fun _ => 0))), (q3, .inl (T.1, 120, .inl (fun _ => 0))), (q4, .inl (T.1, 120, .inl (fun _ => 0))), (q5, .inl (T.1, 7, .inl (fun _ => 0))), (q6, .inl (T.1, 320, .inl (fun _ => 0))), (q7, .inl (T.1, 320, .inl (fun _ => 0))), (q8, .inl (T.1, 4, .inl (fun _ => 0)))])) rfl ?_
  refine zc_aload_n hB 0 rfl rfl dX8_init_69 ?_
  refine zc_iconst (v := 4) hB (by decide) dX8_init_70 ?_
  refine zc_newa (N := 4) hB (by decide) (by decide) (by decide) (by decide) (by decide) dX8_init_71 (fun q9 => ?_)
  refine zc_cs (cells' := 9) (slots' := 1135) rfl rfl ?_
  refine zc_ws (ws' := (zWn 50 T ad zI0 (fun _ _ => 0) ++ [(a0, .inr (6, [.ref q1, .ref q2, .ref q3, .int 0, .ref q4, .int 0, .ref q5, .ref q6, .ref q7, .int 0, .int 0, .int 0, .int 0, .int 0, .int 0, .int 0, .ref q8, .null, .null, .null])), (q1, .inl (T.1, 120, .inl (fun _ => 0))), (q2, .inl (T.1, 120, .inl (fun _ => 0))), (q3, .inl (T.1, 120, .inl (fun _ => 0))), (q4, .inl (T.1, 120, .inl (fun _ => 0))), (q5, .inl (T.1, 7, .inl (fun _ => 0))), (q6, .inl (T.1, 320, .inl (fun _ => 0))), (q7, .inl (T.1, 320, .inl (fun _ => 0))), (q8, .inl (T.1, 4, .inl (fun _ => 0))), (q9, .inl (T.1, 4, .inl (fun _ => 0)))])) rfl ?_
  refine zc_putF_X8 (q0 := 50) (k := 17) (ty := tyX8 17) hB hin rfl (by decide) rfl (tyX8_ok 17 (by decide)) rfl rfl rfl rfl rfl lf_X8_34 dX8_init_73 ?_
  refine zc_ws (ws' := (zWn 50 T ad zI0 (fun _ _ => 0) ++ [(a0, .inr (6, [.ref q1, .ref q2, .ref q3, .int 0, .ref q4, .int 0, .ref q5, .ref q6, .ref q7, .int 0, .int 0, .int 0, .int 0, .int 0, .int 0, .int 0, .ref q8, .ref q9, .null, .null])), (q1, .inl (T.1, 120, .inl (fun _ => 0))), (q2, .inl (T.1, 120, .inl (fun _ => 0))), (q3, .inl (T.1, 120, .inl (fun _ => 0))), (q4, .inl (T.1, 120, .inl (fun _ => 0))), (q5, .inl (T.1, 7, .inl (fun _ => 0))), (q6, .inl (T.1, 320, .inl (fun _ => 0))), (q7, .inl (T.1, 320, .inl (fun _ => 0))), (q8, .inl (T.1, 4, .inl (fun _ => 0))), (q9, .inl (T.1, 4, .inl (fun _ => 0)))])) rfl ?_
  refine zc_aload_n hB 0 rfl rfl dX8_init_76 ?_
  refine zc_sipush (v := 160) hB (by decide) dX8_init_77 ?_
  refine zc_newa (N := 160) hB (by decide) (by decide) (by decide) (by decide) (by decide) dX8_init_80 (fun q10 => ?_)
  refine zc_cs (cells' := 10) (slots' := 1295) rfl rfl ?_
  refine zc_ws (ws' := (zWn 50 T ad zI0 (fun _ _ => 0) ++ [(a0, .inr (6, [.ref q1, .ref q2, .ref q3, .int 0, .ref q4, .int 0, .ref q5, .ref q6, .ref q7, .int 0, .int 0, .int 0, .int 0, .int 0, .int 0, .int 0, .ref q8, .ref q9, .null, .null])), (q1, .inl (T.1, 120, .inl (fun _ => 0))), (q2, .inl (T.1, 120, .inl (fun _ => 0))), (q3, .inl (T.1, 120, .inl (fun _ => 0))), (q4, .inl (T.1, 120, .inl (fun _ => 0))), (q5, .inl (T.1, 7, .inl (fun _ => 0))), (q6, .inl (T.1, 320, .inl (fun _ => 0))), (q7, .inl (T.1, 320, .inl (fun _ => 0))), (q8, .inl (T.1, 4, .inl (fun _ => 0))), (q9, .inl (T.1, 4, .inl (fun _ => 0))), (q10, .inl (T.1, 160, .inl (fun _ => 0)))])) rfl ?_
  refine zc_putF_X8 (q0 := 50) (k := 18) (ty := tyX8 18) hB hin rfl (by decide) rfl (tyX8_ok 18 (by decide)) rfl rfl rfl rfl rfl lf_X8_37 dX8_init_82 ?_
  refine zc_ws (ws' := (zWn 50 T ad zI0 (fun _ _ => 0) ++ [(a0, .inr (6, [.ref q1, .ref q2, .ref q3, .int 0, .ref q4, .int 0, .ref q5, .ref q6, .ref q7, .int 0, .int 0, .int 0, .int 0, .int 0, .int 0, .int 0, .ref q8, .ref q9, .ref q10, .null])), (q1, .inl (T.1, 120, .inl (fun _ => 0))), (q2, .inl (T.1, 120, .inl (fun _ => 0))), (q3, .inl (T.1, 120, .inl (fun _ => 0))), (q4, .inl (T.1, 120, .inl (fun _ => 0))), (q5, .inl (T.1, 7, .inl (fun _ => 0))), (q6, .inl (T.1, 320, .inl (fun _ => 0))), (q7, .inl (T.1, 320, .inl (fun _ => 0))), (q8, .inl (T.1, 4, .inl (fun _ => 0))), (q9, .inl (T.1, 4, .inl (fun _ => 0))), (q10, .inl (T.1, 160, .inl (fun _ => 0)))])) rfl ?_
  refine zc_aload_n hB 0 rfl rfl dX8_init_85 ?_
  refine zc_bipush (v := 40) hB (by decide) dX8_init_86 ?_
  refine zc_newa (N := 40) hB (by decide) (by decide) (by decide) (by decide) (by decide) dX8_init_88 (fun q11 => ?_)
  refine zc_cs (cells' := 11) (slots' := 1335) rfl rfl ?_
  refine zc_ws (ws' := (zWn 50 T ad zI0 (fun _ _ => 0) ++ [(a0, .inr (6, [.ref q1, .ref q2, .ref q3, .int 0, .ref q4, .int 0, .ref q5, .ref q6, .ref q7, .int 0, .int 0, .int 0, .int 0, .int 0, .int 0, .int 0, .ref q8, .ref q9, .ref q10, .null])), (q1, .inl (T.1, 120, .inl (fun _ => 0))), (q2, .inl (T.1, 120, .inl (fun _ => 0))), (q3, .inl (T.1, 120, .inl (fun _ => 0))), (q4, .inl (T.1, 120, .inl (fun _ => 0))), (q5, .inl (T.1, 7, .inl (fun _ => 0))), (q6, .inl (T.1, 320, .inl (fun _ => 0))), (q7, .inl (T.1, 320, .inl (fun _ => 0))), (q8, .inl (T.1, 4, .inl (fun _ => 0))), (q9, .inl (T.1, 4, .inl (fun _ => 0))), (q10, .inl (T.1, 160, .inl (fun _ => 0))), (q11, .inl (T.1, 40, .inl (fun _ => 0)))])) rfl ?_
  refine zc_putF_X8 (q0 := 50) (k := 19) (ty := tyX8 19) hB hin rfl (by decide) rfl (tyX8_ok 19 (by decide)) rfl rfl rfl rfl rfl lf_X8_40 dX8_init_90 ?_
  refine zc_ws (ws' := (zWn 50 T ad zI0 (fun _ _ => 0) ++ [(a0, .inr (6, [.ref q1, .ref q2, .ref q3, .int 0, .ref q4, .int 0, .ref q5, .ref q6, .ref q7, .int 0, .int 0, .int 0, .int 0, .int 0, .int 0, .int 0, .ref q8, .ref q9, .ref q10, .ref q11])), (q1, .inl (T.1, 120, .inl (fun _ => 0))), (q2, .inl (T.1, 120, .inl (fun _ => 0))), (q3, .inl (T.1, 120, .inl (fun _ => 0))), (q4, .inl (T.1, 120, .inl (fun _ => 0))), (q5, .inl (T.1, 7, .inl (fun _ => 0))), (q6, .inl (T.1, 320, .inl (fun _ => 0))), (q7, .inl (T.1, 320, .inl (fun _ => 0))), (q8, .inl (T.1, 4, .inl (fun _ => 0))), (q9, .inl (T.1, 4, .inl (fun _ => 0))), (q10, .inl (T.1, 160, .inl (fun _ => 0))), (q11, .inl (T.1, 40, .inl (fun _ => 0)))])) rfl ?_
  intro H locs ls hP hD hS hl
  obtain ⟨hP2, hi, hA⟩ := z_whole (ax := zadx ad a0 (fun i => [q1, q2, q3, q4, q5, q6, q7, q8, q9, q10, q11].getD (i - 51) 0)) (fun j hj => if_pos hj) (fun k hk => by rcases (show k = 0 ∨ k = 1 ∨ k = 2 ∨ k = 3 ∨ k = 4 ∨ k = 5 ∨ k = 6 ∨ k = 7 ∨ k = 8 ∨ k = 9 ∨ k = 10 ∨ k = 11 by omega) with rfl | rfl | rfl | rfl | rfl | rfl | rfl | rfl | rfl | rfl | rfl | rfl <;> rfl) hP hD
  have hB2 : zB p s m args meth c D T (zadx ad a0 (fun i => [q1, q2, q3, q4, q5, q6, q7, q8, q9, q10, q11].getD (i - 51) 0)) (va_A (zWn 50 T ad zI0 (fun _ _ => 0) ++ [(a0, .inr (6, [.null, .null, .null, .int 0, .null, .int 0, .null, .null, .null, .int 0, .int 0, .int 0, .int 0, .int 0, .int 0, .int 0, .null, .null, .null, .null]))]) s.heap.size) sK sV cX8_init yX8_init.cls 2 none := ⟨hB.1, hB.2.1, hB.2.2.1, hB.2.2.2.1, hB.2.2.2.2.1, hB.2.2.2.2.2.1, hB.2.2.2.2.2.2.1, ⟨hB.2.2.2.2.2.2.2.1, hX⟩, hi, hA⟩
  clear hB
  exact mX8_init_tail (w1 := fun J u => zW T (zadx ad a0 u) J (fun _ _ => 0)) (u := fun i => [q1, q2, q3, q4, q5, q6, q7, q8, q9, q10, q11].getD (i - 51) 0) hB2 ⟨rfl, fun J => rfl⟩ n zI0 J (by rw [zb_some]; exact hJ) H locs ls hP2 hS hl
