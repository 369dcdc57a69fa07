theorem lf_X6_9 : Cond.fieldLink RX6 9 RX6 (TX6 0).2.1 (TX6 0).2.2.1 ∈ zTbl := zmem 115 (by decide +kernel) rfl
theorem lk_X7_55 : Cond.constant RX7 55 (-1000001) ∈ zTbl := zmem 322 (by decide +kernel) rfl
theorem q2_X7_isWithin : Cond.static yX7_isWithin ∈ zTbl := zmem 320 (by decide +kernel) rfl
theorem q4_X7 : Cond.initialized RX7 ∈ zTbl := zmem 85 (by decide +kernel) rfl
theorem q5_X7_isWithin : Cond.code yX7_isWithin cX7_isWithin 3 (some .boolean) ∈ zTbl := zmem 321 (by decide +kernel) rfl
theorem qd_X7_isWithin : yX7_isWithin.cls ≠ "java/lang/invoke/MethodHandle" ∧ yX7_isWithin.cls ≠ "java/lang/invoke/VarHandle" ∧ (parseMethodDescriptor yX7_isWithin.desc).map (fun d => d.parameters.length) = some 3 := by decide +kernel
theorem lm_X7_51 : Cond.methodLink RX7 51 yX7_isWithin ∈ zTbl := zmem 319 (by decide +kernel) rfl
theorem lf_X7_42 : Cond.fieldLink RX7 42 RX7 (TX7 7).2.1 (TX7 7).2.2.1 ∈ zTbl := zmem 294 (by decide +kernel) rfl
theorem q2_X7_isRoom : Cond.static yX7_isRoom ∈ zTbl := zmem 317 (by decide +kernel) rfl
theorem q5_X7_isRoom : Cond.code yX7_isRoom cX7_isRoom 1 (some .boolean) ∈ zTbl := zmem 318 (by decide +kernel) rfl
theorem qd_X7_isRoom : yX7_isRoom.cls ≠ "java/lang/invoke/MethodHandle" ∧ yX7_isRoom.cls ≠ "java/lang/invoke/VarHandle" ∧ (parseMethodDescriptor yX7_isRoom.desc).map (fun d => d.parameters.length) = some 1 := by decide +kernel
theorem lm_X7_47 : Cond.methodLink RX7 47 yX7_isRoom ∈ zTbl := zmem 316 (by decide +kernel) rfl
theorem q2_X7_finding : Cond.instanceMethod yX7_finding ∈ zTbl := zmem 325 (by decide +kernel) rfl
theorem q3_X7_finding : Cond.selects RX7 yX7_finding yX7_finding ∈ zTbl := zmem 0 (by decide +kernel) rfl
theorem q5_X7_finding : Cond.code yX7_finding cX7_finding 3 (some .int) ∈ zTbl := zmem 326 (by decide +kernel) rfl
theorem qd_X7_finding : yX7_finding.cls ≠ "java/lang/invoke/MethodHandle" ∧ yX7_finding.cls ≠ "java/lang/invoke/VarHandle" ∧ (parseMethodDescriptor yX7_finding.desc).map (fun d => d.parameters.length) = some 1 := by decide +kernel
theorem lm_X7_56 : Cond.methodLink RX7 56 yX7_finding ∈ zTbl := zmem 323 (by decide +kernel) rfl
theorem lf_X7_12 : Cond.fieldLink RX7 12 RX7 (TX7 0).2.1 (TX7 0).2.2.1 ∈ zTbl := zmem 287 (by decide +kernel) rfl
theorem q2_X6_isOpen : Cond.instanceMethod yX6_isOpen ∈ zTbl := zmem 328 (by decide +kernel) rfl
theorem q3_X6_isOpen : Cond.selects RX6 yX6_isOpen yX6_isOpen ∈ zTbl := zmem 329 (by decide +kernel) rfl
theorem q4_X6 : Cond.initialized RX6 ∈ zTbl := zmem 86 (by decide +kernel) rfl
theorem q5_X6_isOpen : Cond.code yX6_isOpen cX6_isOpen 3 (some .boolean) ∈ zTbl := zmem 330 (by decide +kernel) rfl
theorem qd_X6_isOpen : yX6_isOpen.cls ≠ "java/lang/invoke/MethodHandle" ∧ yX6_isOpen.cls ≠ "java/lang/invoke/VarHandle" ∧ (parseMethodDescriptor yX6_isOpen.desc).map (fun d => d.parameters.length) = some 2 := by decide +kernel
theorem lm_X7_60 : Cond.methodLink RX7 60 yX6_isOpen ∈ zTbl := zmem 327 (by decide +kernel) rfl
theorem q2_X6_setDoor : Cond.instanceMethod yX6_setDoor ∈ zTbl := zmem 332 (by decide +kernel) rfl
theorem q3_X6_setDoor : Cond.selects RX6 yX6_setDoor yX6_setDoor ∈ zTbl := zmem 333 (by decide +kernel) rfl
theorem q5_X6_setDoor : Cond.code yX6_setDoor cX6_setDoor 4 none ∈ zTbl := zmem 334 (by decide +kernel) rfl
theorem qd_X6_setDoor : yX6_setDoor.cls ≠ "java/lang/invoke/MethodHandle" ∧ yX6_setDoor.cls ≠ "java/lang/invoke/VarHandle" ∧ (parseMethodDescriptor yX6_setDoor.desc).map (fun d => d.parameters.length) = some 3 := by decide +kernel
theorem lm_X7_64 : Cond.methodLink RX7 64 yX6_setDoor ∈ zTbl := zmem 331 (by decide +kernel) rfl
theorem lf_X6_15 : Cond.fieldLink RX6 15 RX6 (TX6 1).2.1 (TX6 1).2.2.1 ∈ zTbl := zmem 116 (by decide +kernel) rfl
theorem lf_X6_49 : Cond.fieldLink RX6 49 RX6 (TX6 2).2.1 (TX6 2).2.2.1 ∈ zTbl := zmem 119 (by decide +kernel) rfl
theorem lf_X6_52 : Cond.fieldLink RX6 52 RX6 (TX6 3).2.1 (TX6 3).2.2.1 ∈ zTbl := zmem 121 (by decide +kernel) rfl
theorem q2_X6_setRule : Cond.instanceMethod yX6_setRule ∈ zTbl := zmem 340 (by decide +kernel) rfl
theorem q3_X6_setRule : Cond.selects RX6 yX6_setRule yX6_setRule ∈ zTbl := zmem 341 (by decide +kernel) rfl
theorem q5_X6_setRule : Cond.code yX6_setRule cX6_setRule 4 (some .int) ∈ zTbl := zmem 342 (by decide +kernel) rfl
theorem qd_X6_setRule : yX6_setRule.cls ≠ "java/lang/invoke/MethodHandle" ∧ yX6_setRule.cls ≠ "java/lang/invoke/VarHandle" ∧ (parseMethodDescriptor yX6_setRule.desc).map (fun d => d.parameters.length) = some 2 := by decide +kernel
theorem lm_X7_68 : Cond.methodLink RX7 68 yX6_setRule ∈ zTbl := zmem 339 (by decide +kernel) rfl
theorem lf_X6_55 : Cond.fieldLink RX6 55 RX6 (TX6 4).2.1 (TX6 4).2.2.1 ∈ zTbl := zmem 123 (by decide +kernel) rfl
theorem lf_X6_19 : Cond.fieldLink RX6 19 RX6 (TX6 5).2.1 (TX6 5).2.2.1 ∈ zTbl := zmem 125 (by decide +kernel) rfl
theorem lf_X6_22 : Cond.fieldLink RX6 22 RX6 (TX6 6).2.1 (TX6 6).2.2.1 ∈ zTbl := zmem 127 (by decide +kernel) rfl
theorem lf_X6_25 : Cond.fieldLink RX6 25 RX6 (TX6 7).2.1 (TX6 7).2.2.1 ∈ zTbl := zmem 130 (by decide +kernel) rfl
theorem lk_X6_73 : Cond.constant RX6 73 (-1000002) ∈ zTbl := zmem 355 (by decide +kernel) rfl
theorem q2_X7_isKind : Cond.static yX7_isKind ∈ zTbl := zmem 348 (by decide +kernel) rfl
theorem q5_X7_isKind : Cond.code yX7_isKind cX7_isKind 1 (some .boolean) ∈ zTbl := zmem 349 (by decide +kernel) rfl
theorem qd_X7_isKind : yX7_isKind.cls ≠ "java/lang/invoke/MethodHandle" ∧ yX7_isKind.cls ≠ "java/lang/invoke/VarHandle" ∧ (parseMethodDescriptor yX7_isKind.desc).map (fun d => d.parameters.length) = some 1 := by decide +kernel
theorem lm_X7_72 : Cond.methodLink RX7 72 yX7_isKind ∈ zTbl := zmem 347 (by decide +kernel) rfl
theorem lf_X7_75 : Cond.fieldLink RX7 75 RX6 (TX6 4).2.1 (TX6 4).2.2.1 ∈ zTbl := zmem 124 (by decide +kernel) rfl
theorem q2_X6_addThing : Cond.instanceMethod yX6_addThing ∈ zTbl := zmem 352 (by decide +kernel) rfl
theorem q3_X6_addThing : Cond.selects RX6 yX6_addThing yX6_addThing ∈ zTbl := zmem 353 (by decide +kernel) rfl
theorem q5_X6_addThing : Cond.code yX6_addThing cX6_addThing 4 (some .int) ∈ zTbl := zmem 354 (by decide +kernel) rfl
theorem qd_X6_addThing : yX6_addThing.cls ≠ "java/lang/invoke/MethodHandle" ∧ yX6_addThing.cls ≠ "java/lang/invoke/VarHandle" ∧ (parseMethodDescriptor yX6_addThing.desc).map (fun d => d.parameters.length) = some 3 := by decide +kernel
theorem lm_X7_80 : Cond.methodLink RX7 80 yX6_addThing ∈ zTbl := zmem 351 (by decide +kernel) rfl
theorem lk_X7_79 : Cond.constant RX7 79 (-1000002) ∈ zTbl := zmem 350 (by decide +kernel) rfl
theorem q2_X0_weightOf : Cond.static yX0_weightOf ∈ zTbl := zmem 373 (by decide +kernel) rfl
theorem q4_X0 : Cond.initialized RX0 ∈ zTbl := zmem 92 (by decide +kernel) rfl
theorem q5_X0_weightOf : Cond.code yX0_weightOf cX0_weightOf 4 (some .int) ∈ zTbl := zmem 374 (by decide +kernel) rfl
theorem qd_X0_weightOf : yX0_weightOf.cls ≠ "java/lang/invoke/MethodHandle" ∧ yX0_weightOf.cls ≠ "java/lang/invoke/VarHandle" ∧ (parseMethodDescriptor yX0_weightOf.desc).map (fun d => d.parameters.length) = some 3 := by decide +kernel
theorem lm_X6_74 : Cond.methodLink RX6 74 yX0_weightOf ∈ zTbl := zmem 372 (by decide +kernel) rfl
theorem q2_X7_isThing : Cond.instanceMethod yX7_isThing ∈ zTbl := zmem 362 (by decide +kernel) rfl
theorem q3_X7_isThing : Cond.selects RX7 yX7_isThing yX7_isThing ∈ zTbl := zmem 1 (by decide +kernel) rfl
theorem q5_X7_isThing : Cond.code yX7_isThing cX7_isThing 2 (some .boolean) ∈ zTbl := zmem 363 (by decide +kernel) rfl
theorem qd_X7_isThing : yX7_isThing.cls ≠ "java/lang/invoke/MethodHandle" ∧ yX7_isThing.cls ≠ "java/lang/invoke/VarHandle" ∧ (parseMethodDescriptor yX7_isThing.desc).map (fun d => d.parameters.length) = some 1 := by decide +kernel
theorem lm_X7_84 : Cond.methodLink RX7 84 yX7_isThing ∈ zTbl := zmem 360 (by decide +kernel) rfl
theorem q2_X6_weightIn : Cond.instanceMethod yX6_weightIn ∈ zTbl := zmem 369 (by decide +kernel) rfl
theorem q3_X6_weightIn : Cond.selects RX6 yX6_weightIn yX6_weightIn ∈ zTbl := zmem 370 (by decide +kernel) rfl
theorem q5_X6_weightIn : Cond.code yX6_weightIn cX6_weightIn 3 (some .int) ∈ zTbl := zmem 371 (by decide +kernel) rfl
theorem qd_X6_weightIn : yX6_weightIn.cls ≠ "java/lang/invoke/MethodHandle" ∧ yX6_weightIn.cls ≠ "java/lang/invoke/VarHandle" ∧ (parseMethodDescriptor yX6_weightIn.desc).map (fun d => d.parameters.length) = some 2 := by decide +kernel
theorem lm_X7_90 : Cond.methodLink RX7 90 yX6_weightIn ∈ zTbl := zmem 368 (by decide +kernel) rfl
theorem q2_X6_partOf : Cond.instanceMethod yX6_partOf ∈ zTbl := zmem 365 (by decide +kernel) rfl
theorem q3_X6_partOf : Cond.selects RX6 yX6_partOf yX6_partOf ∈ zTbl := zmem 366 (by decide +kernel) rfl
theorem q5_X6_partOf : Cond.code yX6_partOf cX6_partOf 3 (some .int) ∈ zTbl := zmem 367 (by decide +kernel) rfl
theorem qd_X6_partOf : yX6_partOf.cls ≠ "java/lang/invoke/MethodHandle" ∧ yX6_partOf.cls ≠ "java/lang/invoke/VarHandle" ∧ (parseMethodDescriptor yX6_partOf.desc).map (fun d => d.parameters.length) = some 2 := by decide +kernel
theorem lm_X7_87 : Cond.methodLink RX7 87 yX6_partOf ∈ zTbl := zmem 364 (by decide +kernel) rfl
theorem q2_X7_canBePart : Cond.static yX7_canBePart ∈ zTbl := zmem 380 (by decide +kernel) rfl
theorem q5_X7_canBePart : Cond.code yX7_canBePart cX7_canBePart 2 (some .boolean) ∈ zTbl := zmem 381 (by decide +kernel) rfl
theorem qd_X7_canBePart : yX7_canBePart.cls ≠ "java/lang/invoke/MethodHandle" ∧ yX7_canBePart.cls ≠ "java/lang/invoke/VarHandle" ∧ (parseMethodDescriptor yX7_canBePart.desc).map (fun d => d.parameters.length) = some 2 := by decide +kernel
theorem lm_X7_93 : Cond.methodLink RX7 93 yX7_canBePart ∈ zTbl := zmem 379 (by decide +kernel) rfl
theorem q2_X6_setPart : Cond.instanceMethod yX6_setPart ∈ zTbl := zmem 383 (by decide +kernel) rfl
theorem q3_X6_setPart : Cond.selects RX6 yX6_setPart yX6_setPart ∈ zTbl := zmem 384 (by decide +kernel) rfl
theorem q5_X6_setPart : Cond.code yX6_setPart cX6_setPart 4 none ∈ zTbl := zmem 385 (by decide +kernel) rfl
theorem qd_X6_setPart : yX6_setPart.cls ≠ "java/lang/invoke/MethodHandle" ∧ yX6_setPart.cls ≠ "java/lang/invoke/VarHandle" ∧ (parseMethodDescriptor yX6_setPart.desc).map (fun d => d.parameters.length) = some 3 := by decide +kernel
theorem lm_X7_96 : Cond.methodLink RX7 96 yX6_setPart ∈ zTbl := zmem 382 (by decide +kernel) rfl
theorem lf_X6_58 : Cond.fieldLink RX6 58 RX6 (TX6 8).2.1 (TX6 8).2.2.1 ∈ zTbl := zmem 131 (by decide +kernel) rfl
theorem lf_X6_28 : Cond.fieldLink RX6 28 RX6 (TX6 9).2.1 (TX6 9).2.2.1 ∈ zTbl := zmem 133 (by decide +kernel) rfl
theorem lf_X6_31 : Cond.fieldLink RX6 31 RX6 (TX6 10).2.1 (TX6 10).2.2.1 ∈ zTbl := zmem 136 (by decide +kernel) rfl
theorem q2_X7_isPlace : Cond.static yX7_isPlace ∈ zTbl := zmem 391 (by decide +kernel) rfl
theorem q5_X7_isPlace : Cond.code yX7_isPlace cX7_isPlace 1 (some .boolean) ∈ zTbl := zmem 392 (by decide +kernel) rfl
theorem qd_X7_isPlace : yX7_isPlace.cls ≠ "java/lang/invoke/MethodHandle" ∧ yX7_isPlace.cls ≠ "java/lang/invoke/VarHandle" ∧ (parseMethodDescriptor yX7_isPlace.desc).map (fun d => d.parameters.length) = some 1 := by decide +kernel
theorem lm_X7_100 : Cond.methodLink RX7 100 yX7_isPlace ∈ zTbl := zmem 390 (by decide +kernel) rfl
theorem lf_X7_103 : Cond.fieldLink RX7 103 RX6 (TX6 8).2.1 (TX6 8).2.2.1 ∈ zTbl := zmem 132 (by decide +kernel) rfl
theorem q2_X6_addOne : Cond.instanceMethod yX6_addOne ∈ zTbl := zmem 394 (by decide +kernel) rfl
theorem q3_X6_addOne : Cond.selects RX6 yX6_addOne yX6_addOne ∈ zTbl := zmem 395 (by decide +kernel) rfl
theorem q5_X6_addOne : Cond.code yX6_addOne cX6_addOne 3 (some .int) ∈ zTbl := zmem 396 (by decide +kernel) rfl
theorem qd_X6_addOne : yX6_addOne.cls ≠ "java/lang/invoke/MethodHandle" ∧ yX6_addOne.cls ≠ "java/lang/invoke/VarHandle" ∧ (parseMethodDescriptor yX6_addOne.desc).map (fun d => d.parameters.length) = some 2 := by decide +kernel
theorem lm_X7_106 : Cond.methodLink RX7 106 yX6_addOne ∈ zTbl := zmem 393 (by decide +kernel) rfl
theorem q2_X7_isOne : Cond.instanceMethod yX7_isOne ∈ zTbl := zmem 403 (by decide +kernel) rfl
theorem q3_X7_isOne : Cond.selects RX7 yX7_isOne yX7_isOne ∈ zTbl := zmem 2 (by decide +kernel) rfl
theorem q5_X7_isOne : Cond.code yX7_isOne cX7_isOne 2 (some .boolean) ∈ zTbl := zmem 404 (by decide +kernel) rfl
theorem qd_X7_isOne : yX7_isOne.cls ≠ "java/lang/invoke/MethodHandle" ∧ yX7_isOne.cls ≠ "java/lang/invoke/VarHandle" ∧ (parseMethodDescriptor yX7_isOne.desc).map (fun d => d.parameters.length) = some 1 := by decide +kernel
theorem lm_X7_109 : Cond.methodLink RX7 109 yX7_isOne ∈ zTbl := zmem 401 (by decide +kernel) rfl
theorem q2_X6_traitOf : Cond.instanceMethod yX6_traitOf ∈ zTbl := zmem 406 (by decide +kernel) rfl
theorem q3_X6_traitOf : Cond.selects RX6 yX6_traitOf yX6_traitOf ∈ zTbl := zmem 407 (by decide +kernel) rfl
theorem q5_X6_traitOf : Cond.code yX6_traitOf cX6_traitOf 3 (some .int) ∈ zTbl := zmem 408 (by decide +kernel) rfl
theorem qd_X6_traitOf : yX6_traitOf.cls ≠ "java/lang/invoke/MethodHandle" ∧ yX6_traitOf.cls ≠ "java/lang/invoke/VarHandle" ∧ (parseMethodDescriptor yX6_traitOf.desc).map (fun d => d.parameters.length) = some 2 := by decide +kernel
theorem lm_X7_112 : Cond.methodLink RX7 112 yX6_traitOf ∈ zTbl := zmem 405 (by decide +kernel) rfl
theorem q2_X6_setTrait : Cond.instanceMethod yX6_setTrait ∈ zTbl := zmem 410 (by decide +kernel) rfl
theorem q3_X6_setTrait : Cond.selects RX6 yX6_setTrait yX6_setTrait ∈ zTbl := zmem 411 (by decide +kernel) rfl
theorem q5_X6_setTrait : Cond.code yX6_setTrait cX6_setTrait 4 none ∈ zTbl := zmem 412 (by decide +kernel) rfl
theorem qd_X6_setTrait : yX6_setTrait.cls ≠ "java/lang/invoke/MethodHandle" ∧ yX6_setTrait.cls ≠ "java/lang/invoke/VarHandle" ∧ (parseMethodDescriptor yX6_setTrait.desc).map (fun d => d.parameters.length) = some 3 := by decide +kernel
theorem lm_X7_115 : Cond.methodLink RX7 115 yX6_setTrait ∈ zTbl := zmem 409 (by decide +kernel) rfl
theorem q2_X6_thingsIn : Cond.instanceMethod yX6_thingsIn ∈ zTbl := zmem 422 (by decide +kernel) rfl
theorem q3_X6_thingsIn : Cond.selects RX6 yX6_thingsIn yX6_thingsIn ∈ zTbl := zmem 423 (by decide +kernel) rfl
theorem q5_X6_thingsIn : Cond.code yX6_thingsIn cX6_thingsIn 4 (some .int) ∈ zTbl := zmem 424 (by decide +kernel) rfl
theorem qd_X6_thingsIn : yX6_thingsIn.cls ≠ "java/lang/invoke/MethodHandle" ∧ yX6_thingsIn.cls ≠ "java/lang/invoke/VarHandle" ∧ (parseMethodDescriptor yX6_thingsIn.desc).map (fun d => d.parameters.length) = some 1 := by decide +kernel
theorem lm_X7_118 : Cond.methodLink RX7 118 yX6_thingsIn ∈ zTbl := zmem 421 (by decide +kernel) rfl
theorem q2_X6_levelOf : Cond.instanceMethod yX6_levelOf ∈ zTbl := zmem 439 (by decide +kernel) rfl
theorem q3_X6_levelOf : Cond.selects RX6 yX6_levelOf yX6_levelOf ∈ zTbl := zmem 440 (by decide +kernel) rfl
theorem q5_X6_levelOf : Cond.code yX6_levelOf cX6_levelOf 2 (some .int) ∈ zTbl := zmem 441 (by decide +kernel) rfl
theorem qd_X6_levelOf : yX6_levelOf.cls ≠ "java/lang/invoke/MethodHandle" ∧ yX6_levelOf.cls ≠ "java/lang/invoke/VarHandle" ∧ (parseMethodDescriptor yX6_levelOf.desc).map (fun d => d.parameters.length) = some 1 := by decide +kernel
theorem lm_X6_84 : Cond.methodLink RX6 84 yX6_levelOf ∈ zTbl := zmem 438 (by decide +kernel) rfl
theorem q2_X6_roomOf : Cond.instanceMethod yX6_roomOf ∈ zTbl := zmem 430 (by decide +kernel) rfl
theorem q3_X6_roomOf : Cond.selects RX6 yX6_roomOf yX6_roomOf ∈ zTbl := zmem 431 (by decide +kernel) rfl
theorem q5_X6_roomOf : Cond.code yX6_roomOf cX6_roomOf 2 (some .int) ∈ zTbl := zmem 432 (by decide +kernel) rfl
theorem qd_X6_roomOf : yX6_roomOf.cls ≠ "java/lang/invoke/MethodHandle" ∧ yX6_roomOf.cls ≠ "java/lang/invoke/VarHandle" ∧ (parseMethodDescriptor yX6_roomOf.desc).map (fun d => d.parameters.length) = some 1 := by decide +kernel
theorem lm_X7_121 : Cond.methodLink RX7 121 yX6_roomOf ∈ zTbl := zmem 429 (by decide +kernel) rfl
theorem q2_X6_moveTo : Cond.instanceMethod yX6_moveTo ∈ zTbl := zmem 435 (by decide +kernel) rfl
theorem q3_X6_moveTo : Cond.selects RX6 yX6_moveTo yX6_moveTo ∈ zTbl := zmem 436 (by decide +kernel) rfl
theorem q5_X6_moveTo : Cond.code yX6_moveTo cX6_moveTo 3 none ∈ zTbl := zmem 437 (by decide +kernel) rfl
theorem qd_X6_moveTo : yX6_moveTo.cls ≠ "java/lang/invoke/MethodHandle" ∧ yX6_moveTo.cls ≠ "java/lang/invoke/VarHandle" ∧ (parseMethodDescriptor yX6_moveTo.desc).map (fun d => d.parameters.length) = some 2 := by decide +kernel
theorem lm_X7_125 : Cond.methodLink RX7 125 yX6_moveTo ∈ zTbl := zmem 434 (by decide +kernel) rfl
theorem lf_X7_129 : Cond.fieldLink RX7 129 RX6 (TX6 9).2.1 (TX6 9).2.2.1 ∈ zTbl := zmem 135 (by decide +kernel) rfl
theorem lk_X7_124 : Cond.constant RX7 124 (-1000005) ∈ zTbl := zmem 433 (by decide +kernel) rfl
theorem q2_X6_placeInside : Cond.instanceMethod yX6_placeInside ∈ zTbl := zmem 447 (by decide +kernel) rfl
theorem q3_X6_placeInside : Cond.selects RX6 yX6_placeInside yX6_placeInside ∈ zTbl := zmem 448 (by decide +kernel) rfl
theorem q5_X6_placeInside : Cond.code yX6_placeInside cX6_placeInside 3 (some .int) ∈ zTbl := zmem 449 (by decide +kernel) rfl
theorem qd_X6_placeInside : yX6_placeInside.cls ≠ "java/lang/invoke/MethodHandle" ∧ yX6_placeInside.cls ≠ "java/lang/invoke/VarHandle" ∧ (parseMethodDescriptor yX6_placeInside.desc).map (fun d => d.parameters.length) = some 1 := by decide +kernel
theorem lm_X7_132 : Cond.methodLink RX7 132 yX6_placeInside ∈ zTbl := zmem 446 (by decide +kernel) rfl
theorem q2_X7_goTo : Cond.instanceMethod yX7_goTo ∈ zTbl := zmem 452 (by decide +kernel) rfl
theorem q3_X7_goTo : Cond.selects RX7 yX7_goTo yX7_goTo ∈ zTbl := zmem 3 (by decide +kernel) rfl
theorem q5_X7_goTo : Cond.code yX7_goTo cX7_goTo 3 (some .int) ∈ zTbl := zmem 453 (by decide +kernel) rfl
theorem qd_X7_goTo : yX7_goTo.cls ≠ "java/lang/invoke/MethodHandle" ∧ yX7_goTo.cls ≠ "java/lang/invoke/VarHandle" ∧ (parseMethodDescriptor yX7_goTo.desc).map (fun d => d.parameters.length) = some 2 := by decide +kernel
theorem lm_X7_135 : Cond.methodLink RX7 135 yX7_goTo ∈ zTbl := zmem 450 (by decide +kernel) rfl
theorem q2_X6_placeOutside : Cond.instanceMethod yX6_placeOutside ∈ zTbl := zmem 459 (by decide +kernel) rfl
theorem q3_X6_placeOutside : Cond.selects RX6 yX6_placeOutside yX6_placeOutside ∈ zTbl := zmem 460 (by decide +kernel) rfl
theorem q5_X6_placeOutside : Cond.code yX6_placeOutside cX6_placeOutside 3 (some .int) ∈ zTbl := zmem 461 (by decide +kernel) rfl
theorem qd_X6_placeOutside : yX6_placeOutside.cls ≠ "java/lang/invoke/MethodHandle" ∧ yX6_placeOutside.cls ≠ "java/lang/invoke/VarHandle" ∧ (parseMethodDescriptor yX6_placeOutside.desc).map (fun d => d.parameters.length) = some 1 := by decide +kernel
theorem lm_X7_138 : Cond.methodLink RX7 138 yX6_placeOutside ∈ zTbl := zmem 458 (by decide +kernel) rfl
theorem lm_X6_92 : Cond.methodLink RX6 92 yX6_roomOf ∈ zTbl := zmem 470 (by decide +kernel) rfl
theorem lm_X6_80 : Cond.methodLink RX6 80 yX6_weightIn ∈ zTbl := zmem 471 (by decide +kernel) rfl
theorem lf_X6_34 : Cond.fieldLink RX6 34 RX6 (TX6 14).2.1 (TX6 14).2.2.1 ∈ zTbl := zmem 144 (by decide +kernel) rfl
theorem lm_X6_43 : Cond.methodLink RX6 43 arraycopyName ∈ zTbl := zmem 485 (by decide +kernel) rfl
theorem lf_X6_67 : Cond.fieldLink RX6 67 RX6 (TX6 13).2.1 (TX6 13).2.2.1 ∈ zTbl := zmem 142 (by decide +kernel) rfl
theorem lf_X6_61 : Cond.fieldLink RX6 61 RX6 (TX6 11).2.1 (TX6 11).2.2.1 ∈ zTbl := zmem 138 (by decide +kernel) rfl
theorem lf_X6_64 : Cond.fieldLink RX6 64 RX6 (TX6 12).2.1 (TX6 12).2.2.1 ∈ zTbl := zmem 140 (by decide +kernel) rfl
theorem lm_X6_95 : Cond.methodLink RX6 95 yX6_moveTo ∈ zTbl := zmem 476 (by decide +kernel) rfl
theorem q2_X6_standingIn : Cond.instanceMethod yX6_standingIn ∈ zTbl := zmem 479 (by decide +kernel) rfl
theorem q3_X6_standingIn : Cond.selects RX6 yX6_standingIn yX6_standingIn ∈ zTbl := zmem 4 (by decide +kernel) rfl
theorem q5_X6_standingIn : Cond.code yX6_standingIn cX6_standingIn 4 (some .int) ∈ zTbl := zmem 480 (by decide +kernel) rfl
theorem qd_X6_standingIn : yX6_standingIn.cls ≠ "java/lang/invoke/MethodHandle" ∧ yX6_standingIn.cls ≠ "java/lang/invoke/VarHandle" ∧ (parseMethodDescriptor yX6_standingIn.desc).map (fun d => d.parameters.length) = some 1 := by decide +kernel
theorem lm_X6_99 : Cond.methodLink RX6 99 yX6_standingIn ∈ zTbl := zmem 477 (by decide +kernel) rfl
theorem q2_X6_enter : Cond.instanceMethod yX6_enter ∈ zTbl := zmem 483 (by decide +kernel) rfl
theorem q3_X6_enter : Cond.selects RX6 yX6_enter yX6_enter ∈ zTbl := zmem 5 (by decide +kernel) rfl
theorem q5_X6_enter : Cond.code yX6_enter cX6_enter 6 none ∈ zTbl := zmem 484 (by decide +kernel) rfl
theorem qd_X6_enter : yX6_enter.cls ≠ "java/lang/invoke/MethodHandle" ∧ yX6_enter.cls ≠ "java/lang/invoke/VarHandle" ∧ (parseMethodDescriptor yX6_enter.desc).map (fun d => d.parameters.length) = some 5 := by decide +kernel
theorem lm_X6_102 : Cond.methodLink RX6 102 yX6_enter ∈ zTbl := zmem 481 (by decide +kernel) rfl
theorem q2_X6_canCarry : Cond.instanceMethod yX6_canCarry ∈ zTbl := zmem 467 (by decide +kernel) rfl
theorem q3_X6_canCarry : Cond.selects RX6 yX6_canCarry yX6_canCarry ∈ zTbl := zmem 468 (by decide +kernel) rfl
theorem q5_X6_canCarry : Cond.code yX6_canCarry cX6_canCarry 3 (some .boolean) ∈ zTbl := zmem 469 (by decide +kernel) rfl
theorem qd_X6_canCarry : yX6_canCarry.cls ≠ "java/lang/invoke/MethodHandle" ∧ yX6_canCarry.cls ≠ "java/lang/invoke/VarHandle" ∧ (parseMethodDescriptor yX6_canCarry.desc).map (fun d => d.parameters.length) = some 2 := by decide +kernel
theorem lm_X7_141 : Cond.methodLink RX7 141 yX6_canCarry ∈ zTbl := zmem 466 (by decide +kernel) rfl
theorem q2_X6_carryOver : Cond.instanceMethod yX6_carryOver ∈ zTbl := zmem 473 (by decide +kernel) rfl
theorem q3_X6_carryOver : Cond.selects RX6 yX6_carryOver yX6_carryOver ∈ zTbl := zmem 474 (by decide +kernel) rfl
theorem q5_X6_carryOver : Cond.code yX6_carryOver cX6_carryOver 6 (some .int) ∈ zTbl := zmem 475 (by decide +kernel) rfl
theorem qd_X6_carryOver : yX6_carryOver.cls ≠ "java/lang/invoke/MethodHandle" ∧ yX6_carryOver.cls ≠ "java/lang/invoke/VarHandle" ∧ (parseMethodDescriptor yX6_carryOver.desc).map (fun d => d.parameters.length) = some 3 := by decide +kernel
theorem lm_X7_144 : Cond.methodLink RX7 144 yX6_carryOver ∈ zTbl := zmem 472 (by decide +kernel) rfl
theorem q2_X6_canReach : Cond.instanceMethod yX6_canReach ∈ zTbl := zmem 493 (by decide +kernel) rfl
theorem q3_X6_canReach : Cond.selects RX6 yX6_canReach yX6_canReach ∈ zTbl := zmem 494 (by decide +kernel) rfl
theorem q5_X6_canReach : Cond.code yX6_canReach cX6_canReach 4 (some .boolean) ∈ zTbl := zmem 495 (by decide +kernel) rfl
theorem qd_X6_canReach : yX6_canReach.cls ≠ "java/lang/invoke/MethodHandle" ∧ yX6_canReach.cls ≠ "java/lang/invoke/VarHandle" ∧ (parseMethodDescriptor yX6_canReach.desc).map (fun d => d.parameters.length) = some 2 := by decide +kernel
theorem lm_X7_147 : Cond.methodLink RX7 147 yX6_canReach ∈ zTbl := zmem 492 (by decide +kernel) rfl
theorem lf_X7_150 : Cond.fieldLink RX7 150 RX6 (TX6 6).2.1 (TX6 6).2.2.1 ∈ zTbl := zmem 129 (by decide +kernel) rfl
theorem q2_X6_reachOver : Cond.instanceMethod yX6_reachOver ∈ zTbl := zmem 497 (by decide +kernel) rfl
theorem q3_X6_reachOver : Cond.selects RX6 yX6_reachOver yX6_reachOver ∈ zTbl := zmem 498 (by decide +kernel) rfl
theorem q5_X6_reachOver : Cond.code yX6_reachOver cX6_reachOver 6 (some .int) ∈ zTbl := zmem 499 (by decide +kernel) rfl
theorem qd_X6_reachOver : yX6_reachOver.cls ≠ "java/lang/invoke/MethodHandle" ∧ yX6_reachOver.cls ≠ "java/lang/invoke/VarHandle" ∧ (parseMethodDescriptor yX6_reachOver.desc).map (fun d => d.parameters.length) = some 3 := by decide +kernel
theorem lm_X7_153 : Cond.methodLink RX7 153 yX6_reachOver ∈ zTbl := zmem 496 (by decide +kernel) rfl
theorem q2_X6_canLift : Cond.instanceMethod yX6_canLift ∈ zTbl := zmem 505 (by decide +kernel) rfl
theorem q3_X6_canLift : Cond.selects RX6 yX6_canLift yX6_canLift ∈ zTbl := zmem 506 (by decide +kernel) rfl
theorem q5_X6_canLift : Cond.code yX6_canLift cX6_canLift 3 (some .boolean) ∈ zTbl := zmem 507 (by decide +kernel) rfl
theorem qd_X6_canLift : yX6_canLift.cls ≠ "java/lang/invoke/MethodHandle" ∧ yX6_canLift.cls ≠ "java/lang/invoke/VarHandle" ∧ (parseMethodDescriptor yX6_canLift.desc).map (fun d => d.parameters.length) = some 2 := by decide +kernel
theorem lm_X7_156 : Cond.methodLink RX7 156 yX6_canLift ∈ zTbl := zmem 504 (by decide +kernel) rfl
theorem lf_X7_159 : Cond.fieldLink RX7 159 RX6 (TX6 11).2.1 (TX6 11).2.2.1 ∈ zTbl := zmem 139 (by decide +kernel) rfl
theorem lf_X7_162 : Cond.fieldLink RX7 162 RX6 (TX6 15).2.1 (TX6 15).2.2.1 ∈ zTbl := zmem 147 (by decide +kernel) rfl
theorem lf_X7_165 : Cond.fieldLink RX7 165 RX6 (TX6 1).2.1 (TX6 1).2.2.1 ∈ zTbl := zmem 118 (by decide +kernel) rfl
theorem lf_X7_168 : Cond.fieldLink RX7 168 RX6 (TX6 2).2.1 (TX6 2).2.2.1 ∈ zTbl := zmem 120 (by decide +kernel) rfl
theorem lf_X7_171 : Cond.fieldLink RX7 171 RX6 (TX6 3).2.1 (TX6 3).2.2.1 ∈ zTbl := zmem 122 (by decide +kernel) rfl
theorem lf_X7_174 : Cond.fieldLink RX7 174 RX6 (TX6 12).2.1 (TX6 12).2.2.1 ∈ zTbl := zmem 141 (by decide +kernel) rfl
theorem lf_X7_177 : Cond.fieldLink RX7 177 RX6 (TX6 13).2.1 (TX6 13).2.2.1 ∈ zTbl := zmem 143 (by decide +kernel) rfl
theorem lf_X7_181 : Cond.fieldLink RX7 181 RX6 (TX6 14).2.1 (TX6 14).2.2.1 ∈ zTbl := zmem 145 (by decide +kernel) rfl
theorem lk_X7_180 : Cond.constant RX7 180 (-1000004) ∈ zTbl := zmem 516 (by decide +kernel) rfl
theorem lj_X6_88 : Cond.constantLong RX6 88 4311810305 ∈ zTbl := zmem 529 (by decide +kernel) rfl
theorem lj_X6_90 : Cond.constantLong RX6 90 16843009 ∈ zTbl := zmem 530 (by decide +kernel) rfl
theorem q2_X6_nextPlaces : Cond.instanceMethod yX6_nextPlaces ∈ zTbl := zmem 526 (by decide +kernel) rfl
theorem q3_X6_nextPlaces : Cond.selects RX6 yX6_nextPlaces yX6_nextPlaces ∈ zTbl := zmem 527 (by decide +kernel) rfl
theorem q5_X6_nextPlaces : Cond.code yX6_nextPlaces cX6_nextPlaces 6 (some .long) ∈ zTbl := zmem 528 (by decide +kernel) rfl
theorem qd_X6_nextPlaces : yX6_nextPlaces.cls ≠ "java/lang/invoke/MethodHandle" ∧ yX6_nextPlaces.cls ≠ "java/lang/invoke/VarHandle" ∧ (parseMethodDescriptor yX6_nextPlaces.desc).map (fun d => d.parameters.length) = some 1 := by decide +kernel
theorem lm_X1_25 : Cond.methodLink RX1 25 yX6_nextPlaces ∈ zTbl := zmem 525 (by decide +kernel) rfl
theorem lj_X1_31 : Cond.constantLong RX1 31 (-1) ∈ zTbl := zmem 531 (by decide +kernel) rfl
theorem lf_X7_25 : Cond.fieldLink RX7 25 RX7 (TX7 4).2.1 (TX7 4).2.2.1 ∈ zTbl := zmem 291 (by decide +kernel) rfl
theorem q2_X1_placesFrom : Cond.instanceMethod yX1_placesFrom ∈ zTbl := zmem 522 (by decide +kernel) rfl
theorem q3_X1_placesFrom : Cond.selects RX1 yX1_placesFrom yX1_placesFrom ∈ zTbl := zmem 523 (by decide +kernel) rfl
theorem q4_X1 : Cond.initialized RX1 ∈ zTbl := zmem 87 (by decide +kernel) rfl
theorem q5_X1_placesFrom : Cond.code yX1_placesFrom cX1_placesFrom 8 (some .long) ∈ zTbl := zmem 524 (by decide +kernel) rfl
theorem qd_X1_placesFrom : yX1_placesFrom.cls ≠ "java/lang/invoke/MethodHandle" ∧ yX1_placesFrom.cls ≠ "java/lang/invoke/VarHandle" ∧ (parseMethodDescriptor yX1_placesFrom.desc).map (fun d => d.parameters.length) = some 2 := by decide +kernel
theorem lm_X7_184 : Cond.methodLink RX7 184 yX1_placesFrom ∈ zTbl := zmem 521 (by decide +kernel) rfl
theorem q2_X1_stepsTo : Cond.instanceMethod yX1_stepsTo ∈ zTbl := zmem 537 (by decide +kernel) rfl
theorem q3_X1_stepsTo : Cond.selects RX1 yX1_stepsTo yX1_stepsTo ∈ zTbl := zmem 538 (by decide +kernel) rfl
theorem q5_X1_stepsTo : Cond.code yX1_stepsTo cX1_stepsTo 9 (some .int) ∈ zTbl := zmem 539 (by decide +kernel) rfl
theorem qd_X1_stepsTo : yX1_stepsTo.cls ≠ "java/lang/invoke/MethodHandle" ∧ yX1_stepsTo.cls ≠ "java/lang/invoke/VarHandle" ∧ (parseMethodDescriptor yX1_stepsTo.desc).map (fun d => d.parameters.length) = some 3 := by decide +kernel
theorem lm_X7_188 : Cond.methodLink RX7 188 yX1_stepsTo ∈ zTbl := zmem 536 (by decide +kernel) rfl
theorem q2_X7_foundOrNone : Cond.instanceMethod yX7_foundOrNone ∈ zTbl := zmem 542 (by decide +kernel) rfl
theorem q3_X7_foundOrNone : Cond.selects RX7 yX7_foundOrNone yX7_foundOrNone ∈ zTbl := zmem 6 (by decide +kernel) rfl
theorem q5_X7_foundOrNone : Cond.code yX7_foundOrNone cX7_foundOrNone 2 (some .int) ∈ zTbl := zmem 543 (by decide +kernel) rfl
theorem qd_X7_foundOrNone : yX7_foundOrNone.cls ≠ "java/lang/invoke/MethodHandle" ∧ yX7_foundOrNone.cls ≠ "java/lang/invoke/VarHandle" ∧ (parseMethodDescriptor yX7_foundOrNone.desc).map (fun d => d.parameters.length) = some 1 := by decide +kernel
theorem lm_X7_192 : Cond.methodLink RX7 192 yX7_foundOrNone ∈ zTbl := zmem 540 (by decide +kernel) rfl
theorem lf_X1_15 : Cond.fieldLink RX1 15 RX1 (TX1 1).2.1 (TX1 1).2.2.1 ∈ zTbl := zmem 197 (by decide +kernel) rfl
theorem lf_X1_18 : Cond.fieldLink RX1 18 RX1 (TX1 2).2.1 (TX1 2).2.2.1 ∈ zTbl := zmem 198 (by decide +kernel) rfl
theorem lf_X1_9 : Cond.fieldLink RX1 9 RX1 (TX1 0).2.1 (TX1 0).2.2.1 ∈ zTbl := zmem 196 (by decide +kernel) rfl
theorem lf_X1_21 : Cond.fieldLink RX1 21 RX1 (TX1 3).2.1 (TX1 3).2.2.1 ∈ zTbl := zmem 199 (by decide +kernel) rfl
theorem lf_X1_64 : Cond.fieldLink RX1 64 RX6 (TX6 1).2.1 (TX6 1).2.2.1 ∈ zTbl := zmem 117 (by decide +kernel) rfl
theorem lm_X1_68 : Cond.methodLink RX1 68 yX6_isOpen ∈ zTbl := zmem 578 (by decide +kernel) rfl
theorem lm_X1_37 : Cond.methodLink RX1 37 yJ7_fill_d0a16 ∈ zTbl := zmem 560 (by decide +kernel) rfl
theorem lm_X1_43 : Cond.methodLink RX1 43 yJ7_fill_53178 ∈ zTbl := zmem 563 (by decide +kernel) rfl
theorem lf_X1_46 : Cond.fieldLink RX1 46 RX6 (TX6 6).2.1 (TX6 6).2.2.1 ∈ zTbl := zmem 128 (by decide +kernel) rfl
theorem lf_X1_49 : Cond.fieldLink RX1 49 RX6 (TX6 9).2.1 (TX6 9).2.2.1 ∈ zTbl := zmem 134 (by decide +kernel) rfl
theorem q2_X6_lightLevels : Cond.instanceMethod yX6_lightLevels ∈ zTbl := zmem 567 (by decide +kernel) rfl
theorem q3_X6_lightLevels : Cond.selects RX6 yX6_lightLevels yX6_lightLevels ∈ zTbl := zmem 568 (by decide +kernel) rfl
theorem q5_X6_lightLevels : Cond.code yX6_lightLevels cX6_lightLevels 6 (some .long) ∈ zTbl := zmem 569 (by decide +kernel) rfl
theorem qd_X6_lightLevels : yX6_lightLevels.cls ≠ "java/lang/invoke/MethodHandle" ∧ yX6_lightLevels.cls ≠ "java/lang/invoke/VarHandle" ∧ (parseMethodDescriptor yX6_lightLevels.desc).map (fun d => d.parameters.length) = some 2 := by decide +kernel
theorem lm_X1_52 : Cond.methodLink RX1 52 yX6_lightLevels ∈ zTbl := zmem 566 (by decide +kernel) rfl
theorem q2_X1_settle : Cond.instanceMethod yX1_settle ∈ zTbl := zmem 572 (by decide +kernel) rfl
theorem q3_X1_settle : Cond.selects RX1 yX1_settle yX1_settle ∈ zTbl := zmem 9 (by decide +kernel) rfl
theorem q5_X1_settle : Cond.code yX1_settle cX1_settle 4 (some .boolean) ∈ zTbl := zmem 573 (by decide +kernel) rfl
theorem qd_X1_settle : yX1_settle.cls ≠ "java/lang/invoke/MethodHandle" ∧ yX1_settle.cls ≠ "java/lang/invoke/VarHandle" ∧ (parseMethodDescriptor yX1_settle.desc).map (fun d => d.parameters.length) = some 1 := by decide +kernel
theorem lm_X1_56 : Cond.methodLink RX1 56 yX1_settle ∈ zTbl := zmem 570 (by decide +kernel) rfl
theorem q2_X1_spread : Cond.instanceMethod yX1_spread ∈ zTbl := zmem 576 (by decide +kernel) rfl
theorem q3_X1_spread : Cond.selects RX1 yX1_spread yX1_spread ∈ zTbl := zmem 10 (by decide +kernel) rfl
theorem q5_X1_spread : Cond.code yX1_spread cX1_spread 11 none ∈ zTbl := zmem 577 (by decide +kernel) rfl
theorem qd_X1_spread : yX1_spread.cls ≠ "java/lang/invoke/MethodHandle" ∧ yX1_spread.cls ≠ "java/lang/invoke/VarHandle" ∧ (parseMethodDescriptor yX1_spread.desc).map (fun d => d.parameters.length) = some 4 := by decide +kernel
theorem lm_X1_60 : Cond.methodLink RX1 60 yX1_spread ∈ zTbl := zmem 574 (by decide +kernel) rfl
theorem q2_X1_explore : Cond.instanceMethod yX1_explore ∈ zTbl := zmem 558 (by decide +kernel) rfl
theorem q3_X1_explore : Cond.selects RX1 yX1_explore yX1_explore ∈ zTbl := zmem 8 (by decide +kernel) rfl
theorem q5_X1_explore : Cond.code yX1_explore cX1_explore 11 none ∈ zTbl := zmem 559 (by decide +kernel) rfl
theorem qd_X1_explore : yX1_explore.cls ≠ "java/lang/invoke/MethodHandle" ∧ yX1_explore.cls ≠ "java/lang/invoke/VarHandle" ∧ (parseMethodDescriptor yX1_explore.desc).map (fun d => d.parameters.length) = some 5 := by decide +kernel
theorem lm_X1_33 : Cond.methodLink RX1 33 yX1_explore ∈ zTbl := zmem 556 (by decide +kernel) rfl
theorem q2_X7_isTask : Cond.instanceMethod yX7_isTask ∈ zTbl := zmem 550 (by decide +kernel) rfl
theorem q3_X7_isTask : Cond.selects RX7 yX7_isTask yX7_isTask ∈ zTbl := zmem 7 (by decide +kernel) rfl
theorem q5_X7_isTask : Cond.code yX7_isTask cX7_isTask 4 (some .boolean) ∈ zTbl := zmem 551 (by decide +kernel) rfl
theorem qd_X7_isTask : yX7_isTask.cls ≠ "java/lang/invoke/MethodHandle" ∧ yX7_isTask.cls ≠ "java/lang/invoke/VarHandle" ∧ (parseMethodDescriptor yX7_isTask.desc).map (fun d => d.parameters.length) = some 3 := by decide +kernel
theorem lm_X7_195 : Cond.methodLink RX7 195 yX7_isTask ∈ zTbl := zmem 548 (by decide +kernel) rfl
theorem q2_X1_fewestFor : Cond.instanceMethod yX1_fewestFor ∈ zTbl := zmem 553 (by decide +kernel) rfl
theorem q3_X1_fewestFor : Cond.selects RX1 yX1_fewestFor yX1_fewestFor ∈ zTbl := zmem 554 (by decide +kernel) rfl
theorem q5_X1_fewestFor : Cond.code yX1_fewestFor cX1_fewestFor 5 (some .int) ∈ zTbl := zmem 555 (by decide +kernel) rfl
theorem qd_X1_fewestFor : yX1_fewestFor.cls ≠ "java/lang/invoke/MethodHandle" ∧ yX1_fewestFor.cls ≠ "java/lang/invoke/VarHandle" ∧ (parseMethodDescriptor yX1_fewestFor.desc).map (fun d => d.parameters.length) = some 4 := by decide +kernel
theorem lm_X7_198 : Cond.methodLink RX7 198 yX1_fewestFor ∈ zTbl := zmem 552 (by decide +kernel) rfl
theorem q2_X7_isFewer : Cond.static yX7_isFewer ∈ zTbl := zmem 584 (by decide +kernel) rfl
theorem q5_X7_isFewer : Cond.code yX7_isFewer cX7_isFewer 2 (some .boolean) ∈ zTbl := zmem 585 (by decide +kernel) rfl
theorem qd_X7_isFewer : yX7_isFewer.cls ≠ "java/lang/invoke/MethodHandle" ∧ yX7_isFewer.cls ≠ "java/lang/invoke/VarHandle" ∧ (parseMethodDescriptor yX7_isFewer.desc).map (fun d => d.parameters.length) = some 2 := by decide +kernel
theorem lm_X7_202 : Cond.methodLink RX7 202 yX7_isFewer ∈ zTbl := zmem 583 (by decide +kernel) rfl
theorem q2_X1_roomsFor : Cond.instanceMethod yX1_roomsFor ∈ zTbl := zmem 591 (by decide +kernel) rfl
theorem q3_X1_roomsFor : Cond.selects RX1 yX1_roomsFor yX1_roomsFor ∈ zTbl := zmem 592 (by decide +kernel) rfl
theorem q5_X1_roomsFor : Cond.code yX1_roomsFor cX1_roomsFor 7 (some .int) ∈ zTbl := zmem 593 (by decide +kernel) rfl
theorem qd_X1_roomsFor : yX1_roomsFor.cls ≠ "java/lang/invoke/MethodHandle" ∧ yX1_roomsFor.cls ≠ "java/lang/invoke/VarHandle" ∧ (parseMethodDescriptor yX1_roomsFor.desc).map (fun d => d.parameters.length) = some 4 := by decide +kernel
theorem lm_X7_205 : Cond.methodLink RX7 205 yX1_roomsFor ∈ zTbl := zmem 590 (by decide +kernel) rfl
theorem lf_X6_70 : Cond.fieldLink RX6 70 RX6 (TX6 15).2.1 (TX6 15).2.2.1 ∈ zTbl := zmem 146 (by decide +kernel) rfl
theorem lf_X6_37 : Cond.fieldLink RX6 37 RX6 (TX6 16).2.1 (TX6 16).2.2.1 ∈ zTbl := zmem 148 (by decide +kernel) rfl
theorem lf_X6_40 : Cond.fieldLink RX6 40 RX6 (TX6 17).2.1 (TX6 17).2.2.1 ∈ zTbl := zmem 150 (by decide +kernel) rfl
theorem lf_X7_19 : Cond.fieldLink RX7 19 RX7 (TX7 2).2.1 (TX7 2).2.2.1 ∈ zTbl := zmem 289 (by decide +kernel) rfl
theorem q2_X6_become : Cond.instanceMethod yX6_become ∈ zTbl := zmem 603 (by decide +kernel) rfl
theorem q3_X6_become : Cond.selects RX6 yX6_become yX6_become ∈ zTbl := zmem 604 (by decide +kernel) rfl
theorem q5_X6_become : Cond.code yX6_become cX6_become 2 none ∈ zTbl := zmem 605 (by decide +kernel) rfl
theorem qd_X6_become : yX6_become.cls ≠ "java/lang/invoke/MethodHandle" ∧ yX6_become.cls ≠ "java/lang/invoke/VarHandle" ∧ (parseMethodDescriptor yX6_become.desc).map (fun d => d.parameters.length) = some 1 := by decide +kernel
theorem lm_X7_209 : Cond.methodLink RX7 209 yX6_become ∈ zTbl := zmem 602 (by decide +kernel) rfl
theorem q2_X6_weighsSomewhere : Cond.instanceMethod yX6_weighsSomewhere ∈ zTbl := zmem 607 (by decide +kernel) rfl
theorem q3_X6_weighsSomewhere : Cond.selects RX6 yX6_weighsSomewhere yX6_weighsSomewhere ∈ zTbl := zmem 608 (by decide +kernel) rfl
theorem q5_X6_weighsSomewhere : Cond.code yX6_weighsSomewhere cX6_weighsSomewhere 4 (some .boolean) ∈ zTbl := zmem 609 (by decide +kernel) rfl
theorem qd_X6_weighsSomewhere : yX6_weighsSomewhere.cls ≠ "java/lang/invoke/MethodHandle" ∧ yX6_weighsSomewhere.cls ≠ "java/lang/invoke/VarHandle" ∧ (parseMethodDescriptor yX6_weighsSomewhere.desc).map (fun d => d.parameters.length) = some 2 := by decide +kernel
theorem lm_X7_213 : Cond.methodLink RX7 213 yX6_weighsSomewhere ∈ zTbl := zmem 606 (by decide +kernel) rfl
theorem lf_X7_216 : Cond.fieldLink RX7 216 RX6 (TX6 10).2.1 (TX6 10).2.2.1 ∈ zTbl := zmem 137 (by decide +kernel) rfl
theorem lf_X7_219 : Cond.fieldLink RX7 219 RX6 (TX6 5).2.1 (TX6 5).2.2.1 ∈ zTbl := zmem 126 (by decide +kernel) rfl
theorem lm_X6_106 : Cond.methodLink RX6 106 yX6_canCarry ∈ zTbl := zmem 626 (by decide +kernel) rfl
theorem lm_X6_110 : Cond.methodLink RX6 110 yX6_canReach ∈ zTbl := zmem 627 (by decide +kernel) rfl
theorem q2_X6_roomsHitBy : Cond.instanceMethod yX6_roomsHitBy ∈ zTbl := zmem 623 (by decide +kernel) rfl
theorem q3_X6_roomsHitBy : Cond.selects RX6 yX6_roomsHitBy yX6_roomsHitBy ∈ zTbl := zmem 624 (by decide +kernel) rfl
theorem q5_X6_roomsHitBy : Cond.code yX6_roomsHitBy cX6_roomsHitBy 4 (some .int) ∈ zTbl := zmem 625 (by decide +kernel) rfl
theorem qd_X6_roomsHitBy : yX6_roomsHitBy.cls ≠ "java/lang/invoke/MethodHandle" ∧ yX6_roomsHitBy.cls ≠ "java/lang/invoke/VarHandle" ∧ (parseMethodDescriptor yX6_roomsHitBy.desc).map (fun d => d.parameters.length) = some 2 := by decide +kernel
theorem lm_X7_222 : Cond.methodLink RX7 222 yX6_roomsHitBy ∈ zTbl := zmem 622 (by decide +kernel) rfl
theorem q2_X7_isRoomAndThing : Cond.instanceMethod yX7_isRoomAndThing ∈ zTbl := zmem 638 (by decide +kernel) rfl
theorem q3_X7_isRoomAndThing : Cond.selects RX7 yX7_isRoomAndThing yX7_isRoomAndThing ∈ zTbl := zmem 11 (by decide +kernel) rfl
theorem q5_X7_isRoomAndThing : Cond.code yX7_isRoomAndThing cX7_isRoomAndThing 2 (some .boolean) ∈ zTbl := zmem 639 (by decide +kernel) rfl
theorem qd_X7_isRoomAndThing : yX7_isRoomAndThing.cls ≠ "java/lang/invoke/MethodHandle" ∧ yX7_isRoomAndThing.cls ≠ "java/lang/invoke/VarHandle" ∧ (parseMethodDescriptor yX7_isRoomAndThing.desc).map (fun d => d.parameters.length) = some 1 := by decide +kernel
theorem lm_X7_225 : Cond.methodLink RX7 225 yX7_isRoomAndThing ∈ zTbl := zmem 636 (by decide +kernel) rfl
theorem q2_X7_stepsWithDoor : Cond.instanceMethod yX7_stepsWithDoor ∈ zTbl := zmem 646 (by decide +kernel) rfl
theorem q3_X7_stepsWithDoor : Cond.selects RX7 yX7_stepsWithDoor yX7_stepsWithDoor ∈ zTbl := zmem 12 (by decide +kernel) rfl
theorem q5_X7_stepsWithDoor : Cond.code yX7_stepsWithDoor cX7_stepsWithDoor 7 (some .int) ∈ zTbl := zmem 647 (by decide +kernel) rfl
theorem qd_X7_stepsWithDoor : yX7_stepsWithDoor.cls ≠ "java/lang/invoke/MethodHandle" ∧ yX7_stepsWithDoor.cls ≠ "java/lang/invoke/VarHandle" ∧ (parseMethodDescriptor yX7_stepsWithDoor.desc).map (fun d => d.parameters.length) = some 5 := by decide +kernel
theorem lm_X7_228 : Cond.methodLink RX7 228 yX7_stepsWithDoor ∈ zTbl := zmem 644 (by decide +kernel) rfl
theorem lj_X7_232 : Cond.constantLong RX7 232 4000000000000000000 ∈ zTbl := zmem 652 (by decide +kernel) rfl
theorem lk_X7_234 : Cond.constant RX7 234 (-1000007) ∈ zTbl := zmem 653 (by decide +kernel) rfl
theorem lj_X7_235 : Cond.constantLong RX7 235 2 ∈ zTbl := zmem 662 (by decide +kernel) rfl
theorem lj_X7_237 : Cond.constantLong RX7 237 1000000000000 ∈ zTbl := zmem 663 (by decide +kernel) rfl
theorem lk_X7_239 : Cond.constant RX7 239 2000000000 ∈ zTbl := zmem 668 (by decide +kernel) rfl
theorem lk_X6_127 : Cond.constant RX6 127 1103515245 ∈ zTbl := zmem 685 (by decide +kernel) rfl
theorem q2_X6_draw : Cond.instanceMethod yX6_draw ∈ zTbl := zmem 683 (by decide +kernel) rfl
theorem q3_X6_draw : Cond.selects RX6 yX6_draw yX6_draw ∈ zTbl := zmem 14 (by decide +kernel) rfl
theorem q5_X6_draw : Cond.code yX6_draw cX6_draw 1 (some .int) ∈ zTbl := zmem 684 (by decide +kernel) rfl
theorem qd_X6_draw : yX6_draw.cls ≠ "java/lang/invoke/MethodHandle" ∧ yX6_draw.cls ≠ "java/lang/invoke/VarHandle" ∧ (parseMethodDescriptor yX6_draw.desc).map (fun d => d.parameters.length) = some 0 := by decide +kernel
theorem lm_X6_117 : Cond.methodLink RX6 117 yX6_draw ∈ zTbl := zmem 681 (by decide +kernel) rfl
theorem lm_X6_121 : Cond.methodLink RX6 121 yX6_isOpen ∈ zTbl := zmem 686 (by decide +kernel) rfl
theorem lm_X6_124 : Cond.methodLink RX6 124 yX6_reachOver ∈ zTbl := zmem 687 (by decide +kernel) rfl
theorem q2_X6_actByDraws : Cond.instanceMethod yX6_actByDraws ∈ zTbl := zmem 679 (by decide +kernel) rfl
theorem q3_X6_actByDraws : Cond.selects RX6 yX6_actByDraws yX6_actByDraws ∈ zTbl := zmem 13 (by decide +kernel) rfl
theorem q5_X6_actByDraws : Cond.code yX6_actByDraws cX6_actByDraws 5 none ∈ zTbl := zmem 680 (by decide +kernel) rfl
theorem qd_X6_actByDraws : yX6_actByDraws.cls ≠ "java/lang/invoke/MethodHandle" ∧ yX6_actByDraws.cls ≠ "java/lang/invoke/VarHandle" ∧ (parseMethodDescriptor yX6_actByDraws.desc).map (fun d => d.parameters.length) = some 1 := by decide +kernel
theorem lm_X6_113 : Cond.methodLink RX6 113 yX6_actByDraws ∈ zTbl := zmem 677 (by decide +kernel) rfl
theorem q2_X6_passDays : Cond.instanceMethod yX6_passDays ∈ zTbl := zmem 674 (by decide +kernel) rfl
theorem q3_X6_passDays : Cond.selects RX6 yX6_passDays yX6_passDays ∈ zTbl := zmem 675 (by decide +kernel) rfl
theorem q5_X6_passDays : Cond.code yX6_passDays cX6_passDays 5 (some .int) ∈ zTbl := zmem 676 (by decide +kernel) rfl
theorem qd_X6_passDays : yX6_passDays.cls ≠ "java/lang/invoke/MethodHandle" ∧ yX6_passDays.cls ≠ "java/lang/invoke/VarHandle" ∧ (parseMethodDescriptor yX6_passDays.desc).map (fun d => d.parameters.length) = some 1 := by decide +kernel
theorem lm_X7_240 : Cond.methodLink RX7 240 yX6_passDays ∈ zTbl := zmem 673 (by decide +kernel) rfl
theorem lf_X7_243 : Cond.fieldLink RX7 243 RX6 (TX6 16).2.1 (TX6 16).2.2.1 ∈ zTbl := zmem 149 (by decide +kernel) rfl
theorem lf_X3_24 : Cond.fieldLink RX3 24 RX3 (TX3 1).2.1 (TX3 1).2.2.1 ∈ zTbl := zmem 223 (by decide +kernel) rfl
theorem lf_X3_11 : Cond.fieldLink RX3 11 RX3 (TX3 0).2.1 (TX3 0).2.2.1 ∈ zTbl := zmem 222 (by decide +kernel) rfl
theorem lf_X7_32 : Cond.fieldLink RX7 32 RX7 (TX7 5).2.1 (TX7 5).2.2.1 ∈ zTbl := zmem 292 (by decide +kernel) rfl
theorem lf_X7_246 : Cond.fieldLink RX7 246 RX4 (TX4 0).2.1 (TX4 0).2.2.1 ∈ zTbl := zmem 243 (by decide +kernel) rfl
theorem lf_X7_250 : Cond.fieldLink RX7 250 RX3 (TX3 1).2.1 (TX3 1).2.2.1 ∈ zTbl := zmem 224 (by decide +kernel) rfl
theorem q2_X3_append : Cond.instanceMethod yX3_append ∈ zTbl := zmem 705 (by decide +kernel) rfl
theorem q3_X3_append : Cond.selects RX3 yX3_append yX3_append ∈ zTbl := zmem 706 (by decide +kernel) rfl
theorem q4_X3 : Cond.initialized RX3 ∈ zTbl := zmem 89 (by decide +kernel) rfl
theorem q5_X3_append : Cond.code yX3_append cX3_append 4 none ∈ zTbl := zmem 707 (by decide +kernel) rfl
theorem qd_X3_append : yX3_append.cls ≠ "java/lang/invoke/MethodHandle" ∧ yX3_append.cls ≠ "java/lang/invoke/VarHandle" ∧ (parseMethodDescriptor yX3_append.desc).map (fun d => d.parameters.length) = some 2 := by decide +kernel
theorem lm_X7_255 : Cond.methodLink RX7 255 yX3_append ∈ zTbl := zmem 704 (by decide +kernel) rfl
theorem lf_X3_28 : Cond.fieldLink RX3 28 RX3 (TX3 5).2.1 (TX3 5).2.2.1 ∈ zTbl := zmem 228 (by decide +kernel) rfl
theorem lf_X3_21 : Cond.fieldLink RX3 21 RX3 (TX3 4).2.1 (TX3 4).2.2.1 ∈ zTbl := zmem 227 (by decide +kernel) rfl
theorem lf_X3_15 : Cond.fieldLink RX3 15 RX3 (TX3 2).2.1 (TX3 2).2.2.1 ∈ zTbl := zmem 225 (by decide +kernel) rfl
theorem lf_X3_18 : Cond.fieldLink RX3 18 RX3 (TX3 3).2.1 (TX3 3).2.2.1 ∈ zTbl := zmem 226 (by decide +kernel) rfl
theorem q2_X3_kindOf : Cond.static yX3_kindOf ∈ zTbl := zmem 729 (by decide +kernel) rfl
theorem q5_X3_kindOf : Cond.code yX3_kindOf cX3_kindOf 1 (some .int) ∈ zTbl := zmem 730 (by decide +kernel) rfl
theorem qd_X3_kindOf : yX3_kindOf.cls ≠ "java/lang/invoke/MethodHandle" ∧ yX3_kindOf.cls ≠ "java/lang/invoke/VarHandle" ∧ (parseMethodDescriptor yX3_kindOf.desc).map (fun d => d.parameters.length) = some 1 := by decide +kernel
theorem lm_X3_35 : Cond.methodLink RX3 35 yX3_kindOf ∈ zTbl := zmem 728 (by decide +kernel) rfl
theorem lm_X3_72 : Cond.methodLink RX3 72 Lib.Math.min.name ∈ zTbl := zmem 816 (by decide +kernel) rfl
theorem lm_X3_63 : Cond.methodLink RX3 63 yJ0_length_8abf5 ∈ zTbl := zmem 764 (by decide +kernel) rfl
theorem lm_X3_68 : Cond.methodLink RX3 68 yJ0_charAt_5068e ∈ zTbl := zmem 774 (by decide +kernel) rfl
theorem q2_X5_nameOf : Cond.static yX5_nameOf ∈ zTbl := zmem 740 (by decide +kernel) rfl
theorem q4_X5 : Cond.initialized RX5 ∈ zTbl := zmem 96 (by decide +kernel) rfl
theorem q5_X5_nameOf : Cond.code yX5_nameOf cX5_nameOf 1 (some (.object "java/lang/String")) ∈ zTbl := zmem 741 (by decide +kernel) rfl
theorem qd_X5_nameOf : yX5_nameOf.cls ≠ "java/lang/invoke/MethodHandle" ∧ yX5_nameOf.cls ≠ "java/lang/invoke/VarHandle" ∧ (parseMethodDescriptor yX5_nameOf.desc).map (fun d => d.parameters.length) = some 1 := by decide +kernel
theorem lm_X3_55 : Cond.methodLink RX3 55 yX5_nameOf ∈ zTbl := zmem 739 (by decide +kernel) rfl
theorem q2_X3_isWordIn : Cond.instanceMethod yX3_isWordIn ∈ zTbl := zmem 762 (by decide +kernel) rfl
theorem q3_X3_isWordIn : Cond.selects RX3 yX3_isWordIn yX3_isWordIn ∈ zTbl := zmem 18 (by decide +kernel) rfl
theorem q5_X3_isWordIn : Cond.code yX3_isWordIn cX3_isWordIn 5 (some .boolean) ∈ zTbl := zmem 763 (by decide +kernel) rfl
theorem qd_X3_isWordIn : yX3_isWordIn.cls ≠ "java/lang/invoke/MethodHandle" ∧ yX3_isWordIn.cls ≠ "java/lang/invoke/VarHandle" ∧ (parseMethodDescriptor yX3_isWordIn.desc).map (fun d => d.parameters.length) = some 3 := by decide +kernel
theorem lm_X3_59 : Cond.methodLink RX3 59 yX3_isWordIn ∈ zTbl := zmem 760 (by decide +kernel) rfl
theorem q2_X3_wordIn : Cond.instanceMethod yX3_wordIn ∈ zTbl := zmem 737 (by decide +kernel) rfl
theorem q3_X3_wordIn : Cond.selects RX3 yX3_wordIn yX3_wordIn ∈ zTbl := zmem 17 (by decide +kernel) rfl
theorem q5_X3_wordIn : Cond.code yX3_wordIn cX3_wordIn 4 (some .int) ∈ zTbl := zmem 738 (by decide +kernel) rfl
theorem qd_X3_wordIn : yX3_wordIn.cls ≠ "java/lang/invoke/MethodHandle" ∧ yX3_wordIn.cls ≠ "java/lang/invoke/VarHandle" ∧ (parseMethodDescriptor yX3_wordIn.desc).map (fun d => d.parameters.length) = some 2 := by decide +kernel
theorem lm_X3_46 : Cond.methodLink RX3 46 yX3_wordIn ∈ zTbl := zmem 735 (by decide +kernel) rfl
theorem q2_X3_numberIn : Cond.instanceMethod yX3_numberIn ∈ zTbl := zmem 814 (by decide +kernel) rfl
theorem q3_X3_numberIn : Cond.selects RX3 yX3_numberIn yX3_numberIn ∈ zTbl := zmem 19 (by decide +kernel) rfl
theorem q5_X3_numberIn : Cond.code yX3_numberIn cX3_numberIn 5 (some .int) ∈ zTbl := zmem 815 (by decide +kernel) rfl
theorem qd_X3_numberIn : yX3_numberIn.cls ≠ "java/lang/invoke/MethodHandle" ∧ yX3_numberIn.cls ≠ "java/lang/invoke/VarHandle" ∧ (parseMethodDescriptor yX3_numberIn.desc).map (fun d => d.parameters.length) = some 2 := by decide +kernel
theorem lm_X3_50 : Cond.methodLink RX3 50 yX3_numberIn ∈ zTbl := zmem 812 (by decide +kernel) rfl
theorem q2_X3_endOf : Cond.instanceMethod yX3_endOf ∈ zTbl := zmem 726 (by decide +kernel) rfl
theorem q3_X3_endOf : Cond.selects RX3 yX3_endOf yX3_endOf ∈ zTbl := zmem 15 (by decide +kernel) rfl
theorem q5_X3_endOf : Cond.code yX3_endOf cX3_endOf 4 (some .int) ∈ zTbl := zmem 727 (by decide +kernel) rfl
theorem qd_X3_endOf : yX3_endOf.cls ≠ "java/lang/invoke/MethodHandle" ∧ yX3_endOf.cls ≠ "java/lang/invoke/VarHandle" ∧ (parseMethodDescriptor yX3_endOf.desc).map (fun d => d.parameters.length) = some 1 := by decide +kernel
theorem lm_X3_31 : Cond.methodLink RX3 31 yX3_endOf ∈ zTbl := zmem 724 (by decide +kernel) rfl
theorem q2_X3_valueOf : Cond.instanceMethod yX3_valueOf ∈ zTbl := zmem 733 (by decide +kernel) rfl
theorem q3_X3_valueOf : Cond.selects RX3 yX3_valueOf yX3_valueOf ∈ zTbl := zmem 16 (by decide +kernel) rfl
theorem q5_X3_valueOf : Cond.code yX3_valueOf cX3_valueOf 4 (some .int) ∈ zTbl := zmem 734 (by decide +kernel) rfl
theorem qd_X3_valueOf : yX3_valueOf.cls ≠ "java/lang/invoke/MethodHandle" ∧ yX3_valueOf.cls ≠ "java/lang/invoke/VarHandle" ∧ (parseMethodDescriptor yX3_valueOf.desc).map (fun d => d.parameters.length) = some 3 := by decide +kernel
theorem lm_X3_38 : Cond.methodLink RX3 38 yX3_valueOf ∈ zTbl := zmem 731 (by decide +kernel) rfl
theorem q2_X3_addToken : Cond.instanceMethod yX3_addToken ∈ zTbl := zmem 821 (by decide +kernel) rfl
theorem q3_X3_addToken : Cond.selects RX3 yX3_addToken yX3_addToken ∈ zTbl := zmem 20 (by decide +kernel) rfl
theorem q5_X3_addToken : Cond.code yX3_addToken cX3_addToken 4 none ∈ zTbl := zmem 822 (by decide +kernel) rfl
theorem qd_X3_addToken : yX3_addToken.cls ≠ "java/lang/invoke/MethodHandle" ∧ yX3_addToken.cls ≠ "java/lang/invoke/VarHandle" ∧ (parseMethodDescriptor yX3_addToken.desc).map (fun d => d.parameters.length) = some 3 := by decide +kernel
theorem lm_X3_42 : Cond.methodLink RX3 42 yX3_addToken ∈ zTbl := zmem 819 (by decide +kernel) rfl
theorem lf_X4_29 : Cond.fieldLink RX4 29 RX4 (TX4 2).2.1 (TX4 2).2.2.1 ∈ zTbl := zmem 246 (by decide +kernel) rfl
theorem lf_X4_18 : Cond.fieldLink RX4 18 RX4 (TX4 1).2.1 (TX4 1).2.2.1 ∈ zTbl := zmem 244 (by decide +kernel) rfl
theorem lf_X4_35 : Cond.fieldLink RX4 35 RX4 (TX4 6).2.1 (TX4 6).2.2.1 ∈ zTbl := zmem 251 (by decide +kernel) rfl
theorem lf_X4_32 : Cond.fieldLink RX4 32 RX4 (TX4 3).2.1 (TX4 3).2.2.1 ∈ zTbl := zmem 248 (by decide +kernel) rfl
theorem lf_X4_12 : Cond.fieldLink RX4 12 RX4 (TX4 0).2.1 (TX4 0).2.2.1 ∈ zTbl := zmem 242 (by decide +kernel) rfl
theorem q2_X3_numberAt : Cond.instanceMethod yX3_numberAt ∈ zTbl := zmem 848 (by decide +kernel) rfl
theorem q3_X3_numberAt : Cond.selects RX3 yX3_numberAt yX3_numberAt ∈ zTbl := zmem 849 (by decide +kernel) rfl
theorem q5_X3_numberAt : Cond.code yX3_numberAt cX3_numberAt 3 (some .int) ∈ zTbl := zmem 850 (by decide +kernel) rfl
theorem qd_X3_numberAt : yX3_numberAt.cls ≠ "java/lang/invoke/MethodHandle" ∧ yX3_numberAt.cls ≠ "java/lang/invoke/VarHandle" ∧ (parseMethodDescriptor yX3_numberAt.desc).map (fun d => d.parameters.length) = some 1 := by decide +kernel
theorem lm_X4_92 : Cond.methodLink RX4 92 yX3_numberAt ∈ zTbl := zmem 847 (by decide +kernel) rfl
theorem q2_X4_refuse : Cond.instanceMethod yX4_refuse ∈ zTbl := zmem 837 (by decide +kernel) rfl
theorem q3_X4_refuse : Cond.selects RX4 yX4_refuse yX4_refuse ∈ zTbl := zmem 23 (by decide +kernel) rfl
theorem q4_X4 : Cond.initialized RX4 ∈ zTbl := zmem 88 (by decide +kernel) rfl
theorem q5_X4_refuse : Cond.code yX4_refuse cX4_refuse 1 none ∈ zTbl := zmem 838 (by decide +kernel) rfl
theorem qd_X4_refuse : yX4_refuse.cls ≠ "java/lang/invoke/MethodHandle" ∧ yX4_refuse.cls ≠ "java/lang/invoke/VarHandle" ∧ (parseMethodDescriptor yX4_refuse.desc).map (fun d => d.parameters.length) = some 0 := by decide +kernel
theorem lm_X4_75 : Cond.methodLink RX4 75 yX4_refuse ∈ zTbl := zmem 835 (by decide +kernel) rfl
theorem q2_X4_takeNumber : Cond.instanceMethod yX4_takeNumber ∈ zTbl := zmem 845 (by decide +kernel) rfl
theorem q3_X4_takeNumber : Cond.selects RX4 yX4_takeNumber yX4_takeNumber ∈ zTbl := zmem 25 (by decide +kernel) rfl
theorem q5_X4_takeNumber : Cond.code yX4_takeNumber cX4_takeNumber 5 (some .int) ∈ zTbl := zmem 846 (by decide +kernel) rfl
theorem qd_X4_takeNumber : yX4_takeNumber.cls ≠ "java/lang/invoke/MethodHandle" ∧ yX4_takeNumber.cls ≠ "java/lang/invoke/VarHandle" ∧ (parseMethodDescriptor yX4_takeNumber.desc).map (fun d => d.parameters.length) = some 3 := by decide +kernel
theorem lm_X4_88 : Cond.methodLink RX4 88 yX4_takeNumber ∈ zTbl := zmem 843 (by decide +kernel) rfl
theorem q2_X4_addItem : Cond.instanceMethod yX4_addItem ∈ zTbl := zmem 854 (by decide +kernel) rfl
theorem q3_X4_addItem : Cond.selects RX4 yX4_addItem yX4_addItem ∈ zTbl := zmem 26 (by decide +kernel) rfl
theorem q5_X4_addItem : Cond.code yX4_addItem cX4_addItem 6 none ∈ zTbl := zmem 855 (by decide +kernel) rfl
theorem qd_X4_addItem : yX4_addItem.cls ≠ "java/lang/invoke/MethodHandle" ∧ yX4_addItem.cls ≠ "java/lang/invoke/VarHandle" ∧ (parseMethodDescriptor yX4_addItem.desc).map (fun d => d.parameters.length) = some 4 := by decide +kernel
theorem lm_X4_84 : Cond.methodLink RX4 84 yX4_addItem ∈ zTbl := zmem 852 (by decide +kernel) rfl
theorem q2_X3_wordAt : Cond.instanceMethod yX3_wordAt ∈ zTbl := zmem 828 (by decide +kernel) rfl
theorem q3_X3_wordAt : Cond.selects RX3 yX3_wordAt yX3_wordAt ∈ zTbl := zmem 829 (by decide +kernel) rfl
theorem q5_X3_wordAt : Cond.code yX3_wordAt cX3_wordAt 3 (some .int) ∈ zTbl := zmem 830 (by decide +kernel) rfl
theorem qd_X3_wordAt : yX3_wordAt.cls ≠ "java/lang/invoke/MethodHandle" ∧ yX3_wordAt.cls ≠ "java/lang/invoke/VarHandle" ∧ (parseMethodDescriptor yX3_wordAt.desc).map (fun d => d.parameters.length) = some 1 := by decide +kernel
theorem lm_X4_54 : Cond.methodLink RX4 54 yX3_wordAt ∈ zTbl := zmem 827 (by decide +kernel) rfl
theorem lf_X4_26 : Cond.fieldLink RX4 26 RX4 (TX4 5).2.1 (TX4 5).2.2.1 ∈ zTbl := zmem 250 (by decide +kernel) rfl
theorem q2_X4_takePerhaps : Cond.instanceMethod yX4_takePerhaps ∈ zTbl := zmem 841 (by decide +kernel) rfl
theorem q3_X4_takePerhaps : Cond.selects RX4 yX4_takePerhaps yX4_takePerhaps ∈ zTbl := zmem 24 (by decide +kernel) rfl
theorem q5_X4_takePerhaps : Cond.code yX4_takePerhaps cX4_takePerhaps 5 (some .int) ∈ zTbl := zmem 842 (by decide +kernel) rfl
theorem qd_X4_takePerhaps : yX4_takePerhaps.cls ≠ "java/lang/invoke/MethodHandle" ∧ yX4_takePerhaps.cls ≠ "java/lang/invoke/VarHandle" ∧ (parseMethodDescriptor yX4_takePerhaps.desc).map (fun d => d.parameters.length) = some 4 := by decide +kernel
theorem lm_X4_80 : Cond.methodLink RX4 80 yX4_takePerhaps ∈ zTbl := zmem 839 (by decide +kernel) rfl
theorem lf_X4_22 : Cond.fieldLink RX4 22 RX4 (TX4 4).2.1 (TX4 4).2.2.1 ∈ zTbl := zmem 249 (by decide +kernel) rfl
theorem q2_X4_parseOne : Cond.instanceMethod yX4_parseOne ∈ zTbl := zmem 833 (by decide +kernel) rfl
theorem q3_X4_parseOne : Cond.selects RX4 yX4_parseOne yX4_parseOne ∈ zTbl := zmem 22 (by decide +kernel) rfl
theorem q5_X4_parseOne : Cond.code yX4_parseOne cX4_parseOne 4 none ∈ zTbl := zmem 834 (by decide +kernel) rfl
theorem qd_X4_parseOne : yX4_parseOne.cls ≠ "java/lang/invoke/MethodHandle" ∧ yX4_parseOne.cls ≠ "java/lang/invoke/VarHandle" ∧ (parseMethodDescriptor yX4_parseOne.desc).map (fun d => d.parameters.length) = some 0 := by decide +kernel
theorem lm_X4_57 : Cond.methodLink RX4 57 yX4_parseOne ∈ zTbl := zmem 831 (by decide +kernel) rfl
theorem q2_X4_parseDoor : Cond.instanceMethod yX4_parseDoor ∈ zTbl := zmem 858 (by decide +kernel) rfl
theorem q3_X4_parseDoor : Cond.selects RX4 yX4_parseDoor yX4_parseDoor ∈ zTbl := zmem 27 (by decide +kernel) rfl
theorem q5_X4_parseDoor : Cond.code yX4_parseDoor cX4_parseDoor 4 none ∈ zTbl := zmem 859 (by decide +kernel) rfl
theorem qd_X4_parseDoor : yX4_parseDoor.cls ≠ "java/lang/invoke/MethodHandle" ∧ yX4_parseDoor.cls ≠ "java/lang/invoke/VarHandle" ∧ (parseMethodDescriptor yX4_parseDoor.desc).map (fun d => d.parameters.length) = some 1 := by decide +kernel
theorem lm_X4_60 : Cond.methodLink RX4 60 yX4_parseDoor ∈ zTbl := zmem 856 (by decide +kernel) rfl
theorem q2_X4_parseRule : Cond.instanceMethod yX4_parseRule ∈ zTbl := zmem 862 (by decide +kernel) rfl
theorem q3_X4_parseRule : Cond.selects RX4 yX4_parseRule yX4_parseRule ∈ zTbl := zmem 28 (by decide +kernel) rfl
theorem q5_X4_parseRule : Cond.code yX4_parseRule cX4_parseRule 4 none ∈ zTbl := zmem 863 (by decide +kernel) rfl
theorem qd_X4_parseRule : yX4_parseRule.cls ≠ "java/lang/invoke/MethodHandle" ∧ yX4_parseRule.cls ≠ "java/lang/invoke/VarHandle" ∧ (parseMethodDescriptor yX4_parseRule.desc).map (fun d => d.parameters.length) = some 2 := by decide +kernel
theorem lm_X4_64 : Cond.methodLink RX4 64 yX4_parseRule ∈ zTbl := zmem 860 (by decide +kernel) rfl
theorem q2_X4_parseThing : Cond.instanceMethod yX4_parseThing ∈ zTbl := zmem 867 (by decide +kernel) rfl
theorem q3_X4_parseThing : Cond.selects RX4 yX4_parseThing yX4_parseThing ∈ zTbl := zmem 29 (by decide +kernel) rfl
theorem q5_X4_parseThing : Cond.code yX4_parseThing cX4_parseThing 4 none ∈ zTbl := zmem 868 (by decide +kernel) rfl
theorem qd_X4_parseThing : yX4_parseThing.cls ≠ "java/lang/invoke/MethodHandle" ∧ yX4_parseThing.cls ≠ "java/lang/invoke/VarHandle" ∧ (parseMethodDescriptor yX4_parseThing.desc).map (fun d => d.parameters.length) = some 1 := by decide +kernel
theorem lm_X4_72 : Cond.methodLink RX4 72 yX4_parseThing ∈ zTbl := zmem 865 (by decide +kernel) rfl
theorem q2_X3_kindAt : Cond.instanceMethod yX3_kindAt ∈ zTbl := zmem 870 (by decide +kernel) rfl
theorem q3_X3_kindAt : Cond.selects RX3 yX3_kindAt yX3_kindAt ∈ zTbl := zmem 871 (by decide +kernel) rfl
theorem q5_X3_kindAt : Cond.code yX3_kindAt cX3_kindAt 2 (some .int) ∈ zTbl := zmem 872 (by decide +kernel) rfl
theorem qd_X3_kindAt : yX3_kindAt.cls ≠ "java/lang/invoke/MethodHandle" ∧ yX3_kindAt.cls ≠ "java/lang/invoke/VarHandle" ∧ (parseMethodDescriptor yX3_kindAt.desc).map (fun d => d.parameters.length) = some 1 := by decide +kernel
theorem lm_X4_44 : Cond.methodLink RX4 44 yX3_kindAt ∈ zTbl := zmem 869 (by decide +kernel) rfl
theorem q2_X3_split : Cond.instanceMethod yX3_split ∈ zTbl := zmem 721 (by decide +kernel) rfl
theorem q3_X3_split : Cond.selects RX3 yX3_split yX3_split ∈ zTbl := zmem 722 (by decide +kernel) rfl
theorem q5_X3_split : Cond.code yX3_split cX3_split 5 none ∈ zTbl := zmem 723 (by decide +kernel) rfl
theorem qd_X3_split : yX3_split.cls ≠ "java/lang/invoke/MethodHandle" ∧ yX3_split.cls ≠ "java/lang/invoke/VarHandle" ∧ (parseMethodDescriptor yX3_split.desc).map (fun d => d.parameters.length) = some 0 := by decide +kernel
theorem lm_X4_38 : Cond.methodLink RX4 38 yX3_split ∈ zTbl := zmem 720 (by decide +kernel) rfl
theorem q2_X4_parseItem : Cond.instanceMethod yX4_parseItem ∈ zTbl := zmem 825 (by decide +kernel) rfl
theorem q3_X4_parseItem : Cond.selects RX4 yX4_parseItem yX4_parseItem ∈ zTbl := zmem 21 (by decide +kernel) rfl
theorem q5_X4_parseItem : Cond.code yX4_parseItem cX4_parseItem 2 none ∈ zTbl := zmem 826 (by decide +kernel) rfl
theorem qd_X4_parseItem : yX4_parseItem.cls ≠ "java/lang/invoke/MethodHandle" ∧ yX4_parseItem.cls ≠ "java/lang/invoke/VarHandle" ∧ (parseMethodDescriptor yX4_parseItem.desc).map (fun d => d.parameters.length) = some 0 := by decide +kernel
theorem lm_X4_41 : Cond.methodLink RX4 41 yX4_parseItem ∈ zTbl := zmem 823 (by decide +kernel) rfl
theorem q2_X4_takeSign : Cond.instanceMethod yX4_takeSign ∈ zTbl := zmem 875 (by decide +kernel) rfl
theorem q3_X4_takeSign : Cond.selects RX4 yX4_takeSign yX4_takeSign ∈ zTbl := zmem 30 (by decide +kernel) rfl
theorem q5_X4_takeSign : Cond.code yX4_takeSign cX4_takeSign 1 none ∈ zTbl := zmem 876 (by decide +kernel) rfl
theorem qd_X4_takeSign : yX4_takeSign.cls ≠ "java/lang/invoke/MethodHandle" ∧ yX4_takeSign.cls ≠ "java/lang/invoke/VarHandle" ∧ (parseMethodDescriptor yX4_takeSign.desc).map (fun d => d.parameters.length) = some 0 := by decide +kernel
theorem lm_X4_48 : Cond.methodLink RX4 48 yX4_takeSign ∈ zTbl := zmem 873 (by decide +kernel) rfl
theorem q2_X3_beginAt : Cond.instanceMethod yX3_beginAt ∈ zTbl := zmem 878 (by decide +kernel) rfl
theorem q3_X3_beginAt : Cond.selects RX3 yX3_beginAt yX3_beginAt ∈ zTbl := zmem 879 (by decide +kernel) rfl
theorem q5_X3_beginAt : Cond.code yX3_beginAt cX3_beginAt 2 (some .int) ∈ zTbl := zmem 880 (by decide +kernel) rfl
theorem qd_X3_beginAt : yX3_beginAt.cls ≠ "java/lang/invoke/MethodHandle" ∧ yX3_beginAt.cls ≠ "java/lang/invoke/VarHandle" ∧ (parseMethodDescriptor yX3_beginAt.desc).map (fun d => d.parameters.length) = some 1 := by decide +kernel
theorem lm_X4_51 : Cond.methodLink RX4 51 yX3_beginAt ∈ zTbl := zmem 877 (by decide +kernel) rfl
theorem lf_X7_319 : Cond.fieldLink RX7 319 RX4 (TX4 1).2.1 (TX4 1).2.2.1 ∈ zTbl := zmem 245 (by decide +kernel) rfl
theorem q2_X4_parse : Cond.instanceMethod yX4_parse ∈ zTbl := zmem 717 (by decide +kernel) rfl
theorem q3_X4_parse : Cond.selects RX4 yX4_parse yX4_parse ∈ zTbl := zmem 718 (by decide +kernel) rfl
theorem q5_X4_parse : Cond.code yX4_parse cX4_parse 5 (some .int) ∈ zTbl := zmem 719 (by decide +kernel) rfl
theorem qd_X4_parse : yX4_parse.cls ≠ "java/lang/invoke/MethodHandle" ∧ yX4_parse.cls ≠ "java/lang/invoke/VarHandle" ∧ (parseMethodDescriptor yX4_parse.desc).map (fun d => d.parameters.length) = some 2 := by decide +kernel
theorem lm_X7_258 : Cond.methodLink RX7 258 yX4_parse ∈ zTbl := zmem 716 (by decide +kernel) rfl
theorem lf_X7_261 : Cond.fieldLink RX7 261 RX4 (TX4 2).2.1 (TX4 2).2.2.1 ∈ zTbl := zmem 247 (by decide +kernel) rfl
theorem q2_X7_makeSo : Cond.instanceMethod yX7_makeSo ∈ zTbl := zmem 883 (by decide +kernel) rfl
theorem q3_X7_makeSo : Cond.selects RX7 yX7_makeSo yX7_makeSo ∈ zTbl := zmem 31 (by decide +kernel) rfl
theorem q5_X7_makeSo : Cond.code yX7_makeSo cX7_makeSo 5 none ∈ zTbl := zmem 884 (by decide +kernel) rfl
theorem qd_X7_makeSo : yX7_makeSo.cls ≠ "java/lang/invoke/MethodHandle" ∧ yX7_makeSo.cls ≠ "java/lang/invoke/VarHandle" ∧ (parseMethodDescriptor yX7_makeSo.desc).map (fun d => d.parameters.length) = some 1 := by decide +kernel
theorem lm_X7_264 : Cond.methodLink RX7 264 yX7_makeSo ∈ zTbl := zmem 881 (by decide +kernel) rfl
theorem lf_X7_268 : Cond.fieldLink RX7 268 RX6 (TX6 17).2.1 (TX6 17).2.2.1 ∈ zTbl := zmem 151 (by decide +kernel) rfl
theorem q2_X0_kindAbove : Cond.static yX0_kindAbove ∈ zTbl := zmem 899 (by decide +kernel) rfl
theorem q5_X0_kindAbove : Cond.code yX0_kindAbove cX0_kindAbove 1 (some .int) ∈ zTbl := zmem 900 (by decide +kernel) rfl
theorem qd_X0_kindAbove : yX0_kindAbove.cls ≠ "java/lang/invoke/MethodHandle" ∧ yX0_kindAbove.cls ≠ "java/lang/invoke/VarHandle" ∧ (parseMethodDescriptor yX0_kindAbove.desc).map (fun d => d.parameters.length) = some 1 := by decide +kernel
theorem lm_X0_9 : Cond.methodLink RX0 9 yX0_kindAbove ∈ zTbl := zmem 898 (by decide +kernel) rfl
theorem q2_X0_isUnder : Cond.static yX0_isUnder ∈ zTbl := zmem 896 (by decide +kernel) rfl
theorem q5_X0_isUnder : Cond.code yX0_isUnder cX0_isUnder 4 (some .boolean) ∈ zTbl := zmem 897 (by decide +kernel) rfl
theorem qd_X0_isUnder : yX0_isUnder.cls ≠ "java/lang/invoke/MethodHandle" ∧ yX0_isUnder.cls ≠ "java/lang/invoke/VarHandle" ∧ (parseMethodDescriptor yX0_isUnder.desc).map (fun d => d.parameters.length) = some 2 := by decide +kernel
theorem lm_X7_272 : Cond.methodLink RX7 272 yX0_isUnder ∈ zTbl := zmem 895 (by decide +kernel) rfl
theorem lk_X7_277 : Cond.constant RX7 277 (-1000003) ∈ zTbl := zmem 901 (by decide +kernel) rfl
theorem lk_X7_271 : Cond.constant RX7 271 (-1000006) ∈ zTbl := zmem 894 (by decide +kernel) rfl
theorem lf_X2_15 : Cond.fieldLink RX2 15 RX2 (TX2 0).2.1 (TX2 0).2.2.1 ∈ zTbl := zmem 274 (by decide +kernel) rfl
theorem lf_X2_19 : Cond.fieldLink RX2 19 RX2 (TX2 1).2.1 (TX2 1).2.2.1 ∈ zTbl := zmem 276 (by decide +kernel) rfl
theorem lf_X2_9 : Cond.fieldLink RX2 9 RX2 (TX2 2).2.1 (TX2 2).2.2.1 ∈ zTbl := zmem 278 (by decide +kernel) rfl
theorem lm_X2_22 : Cond.methodLink RX2 22 yJ7_fill_53178 ∈ zTbl := zmem 913 (by decide +kernel) rfl
theorem q2_X7_isSheet : Cond.static yX7_isSheet ∈ zTbl := zmem 907 (by decide +kernel) rfl
theorem q5_X7_isSheet : Cond.code yX7_isSheet cX7_isSheet 1 (some .boolean) ∈ zTbl := zmem 908 (by decide +kernel) rfl
theorem qd_X7_isSheet : yX7_isSheet.cls ≠ "java/lang/invoke/MethodHandle" ∧ yX7_isSheet.cls ≠ "java/lang/invoke/VarHandle" ∧ (parseMethodDescriptor yX7_isSheet.desc).map (fun d => d.parameters.length) = some 1 := by decide +kernel
theorem lm_X7_278 : Cond.methodLink RX7 278 yX7_isSheet ∈ zTbl := zmem 906 (by decide +kernel) rfl
theorem lf_X7_38 : Cond.fieldLink RX7 38 RX7 (TX7 6).2.1 (TX7 6).2.2.1 ∈ zTbl := zmem 293 (by decide +kernel) rfl
theorem q2_X2_renew : Cond.instanceMethod yX2_renew ∈ zTbl := zmem 910 (by decide +kernel) rfl
theorem q3_X2_renew : Cond.selects RX2 yX2_renew yX2_renew ∈ zTbl := zmem 911 (by decide +kernel) rfl
theorem q4_X2 : Cond.initialized RX2 ∈ zTbl := zmem 90 (by decide +kernel) rfl
theorem q5_X2_renew : Cond.code yX2_renew cX2_renew 3 none ∈ zTbl := zmem 912 (by decide +kernel) rfl
theorem qd_X2_renew : yX2_renew.cls ≠ "java/lang/invoke/MethodHandle" ∧ yX2_renew.cls ≠ "java/lang/invoke/VarHandle" ∧ (parseMethodDescriptor yX2_renew.desc).map (fun d => d.parameters.length) = some 2 := by decide +kernel
theorem lm_X7_281 : Cond.methodLink RX7 281 yX2_renew ∈ zTbl := zmem 909 (by decide +kernel) rfl
theorem lf_X7_284 : Cond.fieldLink RX7 284 RX2 (TX2 1).2.1 (TX2 1).2.2.1 ∈ zTbl := zmem 277 (by decide +kernel) rfl
theorem q2_X2_isMissing : Cond.instanceMethod yX2_isMissing ∈ zTbl := zmem 919 (by decide +kernel) rfl
theorem q3_X2_isMissing : Cond.selects RX2 yX2_isMissing yX2_isMissing ∈ zTbl := zmem 920 (by decide +kernel) rfl
theorem q5_X2_isMissing : Cond.code yX2_isMissing cX2_isMissing 1 (some .boolean) ∈ zTbl := zmem 921 (by decide +kernel) rfl
theorem qd_X2_isMissing : yX2_isMissing.cls ≠ "java/lang/invoke/MethodHandle" ∧ yX2_isMissing.cls ≠ "java/lang/invoke/VarHandle" ∧ (parseMethodDescriptor yX2_isMissing.desc).map (fun d => d.parameters.length) = some 0 := by decide +kernel
theorem lm_X7_285 : Cond.methodLink RX7 285 yX2_isMissing ∈ zTbl := zmem 918 (by decide +kernel) rfl
theorem q2_X2_put : Cond.instanceMethod yX2_put ∈ zTbl := zmem 923 (by decide +kernel) rfl
theorem q3_X2_put : Cond.selects RX2 yX2_put yX2_put ∈ zTbl := zmem 924 (by decide +kernel) rfl
theorem q5_X2_put : Cond.code yX2_put cX2_put 3 none ∈ zTbl := zmem 925 (by decide +kernel) rfl
theorem qd_X2_put : yX2_put.cls ≠ "java/lang/invoke/MethodHandle" ∧ yX2_put.cls ≠ "java/lang/invoke/VarHandle" ∧ (parseMethodDescriptor yX2_put.desc).map (fun d => d.parameters.length) = some 2 := by decide +kernel
theorem lm_X7_289 : Cond.methodLink RX7 289 yX2_put ∈ zTbl := zmem 922 (by decide +kernel) rfl
theorem lf_X7_292 : Cond.fieldLink RX7 292 RX2 (TX2 0).2.1 (TX2 0).2.2.1 ∈ zTbl := zmem 275 (by decide +kernel) rfl
theorem q2_X2_hasRow : Cond.instanceMethod yX2_hasRow ∈ zTbl := zmem 931 (by decide +kernel) rfl
theorem q3_X2_hasRow : Cond.selects RX2 yX2_hasRow yX2_hasRow ∈ zTbl := zmem 932 (by decide +kernel) rfl
theorem q5_X2_hasRow : Cond.code yX2_hasRow cX2_hasRow 3 (some .boolean) ∈ zTbl := zmem 933 (by decide +kernel) rfl
theorem qd_X2_hasRow : yX2_hasRow.cls ≠ "java/lang/invoke/MethodHandle" ∧ yX2_hasRow.cls ≠ "java/lang/invoke/VarHandle" ∧ (parseMethodDescriptor yX2_hasRow.desc).map (fun d => d.parameters.length) = some 2 := by decide +kernel
theorem lm_X7_295 : Cond.methodLink RX7 295 yX2_hasRow ∈ zTbl := zmem 930 (by decide +kernel) rfl
theorem lf_X7_298 : Cond.fieldLink RX7 298 RX2 (TX2 2).2.1 (TX2 2).2.2.1 ∈ zTbl := zmem 279 (by decide +kernel) rfl
theorem lm_X7_301 : Cond.methodLink RX7 301 arraycopyName ∈ zTbl := zmem 934 (by decide +kernel) rfl
theorem lm_X7_307 : Cond.methodLink RX7 307 yX6_nextPlaces ∈ zTbl := zmem 943 (by decide +kernel) rfl
theorem lf_X7_16 : Cond.fieldLink RX7 16 RX7 (TX7 1).2.1 (TX7 1).2.2.1 ∈ zTbl := zmem 288 (by decide +kernel) rfl
theorem lf_X7_311 : Cond.fieldLink RX7 311 RX7 (TX7 3).2.1 (TX7 3).2.2.1 ∈ zTbl := zmem 290 (by decide +kernel) rfl
theorem q2_X6_fullSpots : Cond.instanceMethod yX6_fullSpots ∈ zTbl := zmem 961 (by decide +kernel) rfl
theorem q3_X6_fullSpots : Cond.selects RX6 yX6_fullSpots yX6_fullSpots ∈ zTbl := zmem 962 (by decide +kernel) rfl
theorem q5_X6_fullSpots : Cond.code yX6_fullSpots cX6_fullSpots 3 (some .int) ∈ zTbl := zmem 963 (by decide +kernel) rfl
theorem qd_X6_fullSpots : yX6_fullSpots.cls ≠ "java/lang/invoke/MethodHandle" ∧ yX6_fullSpots.cls ≠ "java/lang/invoke/VarHandle" ∧ (parseMethodDescriptor yX6_fullSpots.desc).map (fun d => d.parameters.length) = some 0 := by decide +kernel
theorem lm_X7_315 : Cond.methodLink RX7 315 yX6_fullSpots ∈ zTbl := zmem 960 (by decide +kernel) rfl
theorem lf_X8_9 : Cond.fieldLink RX8 9 RX8 (TX8 0).2.1 (TX8 0).2.2.1 ∈ zTbl := zmem 978 (by decide +kernel) rfl
theorem lf_X8_16 : Cond.fieldLink RX8 16 RX8 (TX8 2).2.1 (TX8 2).2.2.1 ∈ zTbl := zmem 980 (by decide +kernel) rfl
theorem q2_X8_become : Cond.static yX8_become ∈ zTbl := zmem 1295 (by decide +kernel) rfl
theorem q4_X8 : Cond.initialized RX8 ∈ zTbl := zmem 91 (by decide +kernel) rfl
theorem q5_X8_become : Cond.code yX8_become cX8_become 3 none ∈ zTbl := zmem 1296 (by decide +kernel) rfl
theorem qd_X8_become : yX8_become.cls ≠ "java/lang/invoke/MethodHandle" ∧ yX8_become.cls ≠ "java/lang/invoke/VarHandle" ∧ (parseMethodDescriptor yX8_become.desc).map (fun d => d.parameters.length) = some 2 := by decide +kernel
theorem lm_X8_47 : Cond.methodLink RX8 47 yX8_become ∈ zTbl := zmem 1294 (by decide +kernel) rfl
theorem lf_X8_22 : Cond.fieldLink RX8 22 RX8 (TX8 6).2.1 (TX8 6).2.2.1 ∈ zTbl := zmem 984 (by decide +kernel) rfl
theorem lk_X8_51 : Cond.constant RX8 51 (-1000001) ∈ zTbl := zmem 1054 (by decide +kernel) rfl
theorem lj_X8_52 : Cond.constantLong RX8 52 7 ∈ zTbl := zmem 1046 (by decide +kernel) rfl
theorem q2_X8_within : Cond.static yX8_within ∈ zTbl := zmem 1048 (by decide +kernel) rfl
theorem q5_X8_within : Cond.code yX8_within cX8_within 6 (some .boolean) ∈ zTbl := zmem 1049 (by decide +kernel) rfl
theorem qd_X8_within : yX8_within.cls ≠ "java/lang/invoke/MethodHandle" ∧ yX8_within.cls ≠ "java/lang/invoke/VarHandle" ∧ (parseMethodDescriptor yX8_within.desc).map (fun d => d.parameters.length) = some 3 := by decide +kernel
theorem lm_X8_54 : Cond.methodLink RX8 54 yX8_within ∈ zTbl := zmem 1047 (by decide +kernel) rfl
theorem lj_X8_58 : Cond.constantLong RX8 58 6 ∈ zTbl := zmem 1071 (by decide +kernel) rfl
theorem lj_X8_60 : Cond.constantLong RX8 60 39 ∈ zTbl := zmem 1103 (by decide +kernel) rfl
theorem q2_X8_above : Cond.static yX8_above ∈ zTbl := zmem 1472 (by decide +kernel) rfl
theorem q5_X8_above : Cond.code yX8_above cX8_above 1 (some .int) ∈ zTbl := zmem 1473 (by decide +kernel) rfl
theorem qd_X8_above : yX8_above.cls ≠ "java/lang/invoke/MethodHandle" ∧ yX8_above.cls ≠ "java/lang/invoke/VarHandle" ∧ (parseMethodDescriptor yX8_above.desc).map (fun d => d.parameters.length) = some 1 := by decide +kernel
theorem lm_X8_62 : Cond.methodLink RX8 62 yX8_above ∈ zTbl := zmem 1471 (by decide +kernel) rfl
theorem q2_X8_heft : Cond.static yX8_heft ∈ zTbl := zmem 1089 (by decide +kernel) rfl
theorem q5_X8_heft : Cond.code yX8_heft cX8_heft 4 (some .int) ∈ zTbl := zmem 1090 (by decide +kernel) rfl
theorem qd_X8_heft : yX8_heft.cls ≠ "java/lang/invoke/MethodHandle" ∧ yX8_heft.cls ≠ "java/lang/invoke/VarHandle" ∧ (parseMethodDescriptor yX8_heft.desc).map (fun d => d.parameters.length) = some 3 := by decide +kernel
theorem lm_X8_66 : Cond.methodLink RX8 66 yX8_heft ∈ zTbl := zmem 1088 (by decide +kernel) rfl
theorem q2_X8_isRoom : Cond.static yX8_isRoom ∈ zTbl := zmem 1044 (by decide +kernel) rfl
theorem q5_X8_isRoom : Cond.code yX8_isRoom cX8_isRoom 1 (some .boolean) ∈ zTbl := zmem 1045 (by decide +kernel) rfl
theorem qd_X8_isRoom : yX8_isRoom.cls ≠ "java/lang/invoke/MethodHandle" ∧ yX8_isRoom.cls ≠ "java/lang/invoke/VarHandle" ∧ (parseMethodDescriptor yX8_isRoom.desc).map (fun d => d.parameters.length) = some 1 := by decide +kernel
theorem lm_X8_70 : Cond.methodLink RX8 70 yX8_isRoom ∈ zTbl := zmem 1043 (by decide +kernel) rfl
theorem q2_X8_finding : Cond.instanceMethod yX8_finding ∈ zTbl := zmem 1052 (by decide +kernel) rfl
theorem q3_X8_finding : Cond.selects RX8 yX8_finding yX8_finding ∈ zTbl := zmem 33 (by decide +kernel) rfl
theorem q5_X8_finding : Cond.code yX8_finding cX8_finding 2 (some .int) ∈ zTbl := zmem 1053 (by decide +kernel) rfl
theorem qd_X8_finding : yX8_finding.cls ≠ "java/lang/invoke/MethodHandle" ∧ yX8_finding.cls ≠ "java/lang/invoke/VarHandle" ∧ (parseMethodDescriptor yX8_finding.desc).map (fun d => d.parameters.length) = some 1 := by decide +kernel
theorem lm_X8_74 : Cond.methodLink RX8 74 yX8_finding ∈ zTbl := zmem 1050 (by decide +kernel) rfl
theorem q2_X8_isOpen : Cond.instanceMethod yX8_isOpen ∈ zTbl := zmem 1057 (by decide +kernel) rfl
theorem q3_X8_isOpen : Cond.selects RX8 yX8_isOpen yX8_isOpen ∈ zTbl := zmem 34 (by decide +kernel) rfl
theorem q5_X8_isOpen : Cond.code yX8_isOpen cX8_isOpen 3 (some .boolean) ∈ zTbl := zmem 1058 (by decide +kernel) rfl
theorem qd_X8_isOpen : yX8_isOpen.cls ≠ "java/lang/invoke/MethodHandle" ∧ yX8_isOpen.cls ≠ "java/lang/invoke/VarHandle" ∧ (parseMethodDescriptor yX8_isOpen.desc).map (fun d => d.parameters.length) = some 2 := by decide +kernel
theorem lm_X8_77 : Cond.methodLink RX8 77 yX8_isOpen ∈ zTbl := zmem 1055 (by decide +kernel) rfl
theorem q2_X8_opensDoor : Cond.instanceMethod yX8_opensDoor ∈ zTbl := zmem 976 (by decide +kernel) rfl
theorem q3_X8_opensDoor : Cond.selects RX8 yX8_opensDoor yX8_opensDoor ∈ zTbl := zmem 32 (by decide +kernel) rfl
theorem q5_X8_opensDoor : Cond.code yX8_opensDoor cX8_opensDoor 4 none ∈ zTbl := zmem 977 (by decide +kernel) rfl
theorem qd_X8_opensDoor : yX8_opensDoor.cls ≠ "java/lang/invoke/MethodHandle" ∧ yX8_opensDoor.cls ≠ "java/lang/invoke/VarHandle" ∧ (parseMethodDescriptor yX8_opensDoor.desc).map (fun d => d.parameters.length) = some 3 := by decide +kernel
theorem lm_X8_43 : Cond.methodLink RX8 43 yX8_opensDoor ∈ zTbl := zmem 974 (by decide +kernel) rfl
theorem lj_X8_81 : Cond.constantLong RX8 81 100 ∈ zTbl := zmem 1063 (by decide +kernel) rfl
theorem q2_X8_isKind : Cond.static yX8_isKind ∈ zTbl := zmem 1069 (by decide +kernel) rfl
theorem q5_X8_isKind : Cond.code yX8_isKind cX8_isKind 1 (some .boolean) ∈ zTbl := zmem 1070 (by decide +kernel) rfl
theorem qd_X8_isKind : yX8_isKind.cls ≠ "java/lang/invoke/MethodHandle" ∧ yX8_isKind.cls ≠ "java/lang/invoke/VarHandle" ∧ (parseMethodDescriptor yX8_isKind.desc).map (fun d => d.parameters.length) = some 1 := by decide +kernel
theorem lm_X8_83 : Cond.methodLink RX8 83 yX8_isKind ∈ zTbl := zmem 1068 (by decide +kernel) rfl
theorem q2_X8_lays : Cond.instanceMethod yX8_lays ∈ zTbl := zmem 1074 (by decide +kernel) rfl
theorem q3_X8_lays : Cond.selects RX8 yX8_lays yX8_lays ∈ zTbl := zmem 35 (by decide +kernel) rfl
theorem q5_X8_lays : Cond.code yX8_lays cX8_lays 4 none ∈ zTbl := zmem 1075 (by decide +kernel) rfl
theorem qd_X8_lays : yX8_lays.cls ≠ "java/lang/invoke/MethodHandle" ∧ yX8_lays.cls ≠ "java/lang/invoke/VarHandle" ∧ (parseMethodDescriptor yX8_lays.desc).map (fun d => d.parameters.length) = some 3 := by decide +kernel
theorem lm_X8_86 : Cond.methodLink RX8 86 yX8_lays ∈ zTbl := zmem 1072 (by decide +kernel) rfl
theorem q2_X8_isThing : Cond.instanceMethod yX8_isThing ∈ zTbl := zmem 1082 (by decide +kernel) rfl
theorem q3_X8_isThing : Cond.selects RX8 yX8_isThing yX8_isThing ∈ zTbl := zmem 36 (by decide +kernel) rfl
theorem q5_X8_isThing : Cond.code yX8_isThing cX8_isThing 2 (some .boolean) ∈ zTbl := zmem 1083 (by decide +kernel) rfl
theorem qd_X8_isThing : yX8_isThing.cls ≠ "java/lang/invoke/MethodHandle" ∧ yX8_isThing.cls ≠ "java/lang/invoke/VarHandle" ∧ (parseMethodDescriptor yX8_isThing.desc).map (fun d => d.parameters.length) = some 1 := by decide +kernel
theorem lm_X8_90 : Cond.methodLink RX8 90 yX8_isThing ∈ zTbl := zmem 1080 (by decide +kernel) rfl
theorem q2_X8_weighs : Cond.instanceMethod yX8_weighs ∈ zTbl := zmem 1086 (by decide +kernel) rfl
theorem q3_X8_weighs : Cond.selects RX8 yX8_weighs yX8_weighs ∈ zTbl := zmem 37 (by decide +kernel) rfl
theorem q5_X8_weighs : Cond.code yX8_weighs cX8_weighs 3 (some .int) ∈ zTbl := zmem 1087 (by decide +kernel) rfl
theorem qd_X8_weighs : yX8_weighs.cls ≠ "java/lang/invoke/MethodHandle" ∧ yX8_weighs.cls ≠ "java/lang/invoke/VarHandle" ∧ (parseMethodDescriptor yX8_weighs.desc).map (fun d => d.parameters.length) = some 2 := by decide +kernel
theorem lm_X8_93 : Cond.methodLink RX8 93 yX8_weighs ∈ zTbl := zmem 1084 (by decide +kernel) rfl
theorem lj_X8_97 : Cond.constantLong RX8 97 60 ∈ zTbl := zmem 1095 (by decide +kernel) rfl
theorem q2_X8_isPlace : Cond.static yX8_isPlace ∈ zTbl := zmem 1101 (by decide +kernel) rfl
theorem q5_X8_isPlace : Cond.code yX8_isPlace cX8_isPlace 1 (some .boolean) ∈ zTbl := zmem 1102 (by decide +kernel) rfl
theorem qd_X8_isPlace : yX8_isPlace.cls ≠ "java/lang/invoke/MethodHandle" ∧ yX8_isPlace.cls ≠ "java/lang/invoke/VarHandle" ∧ (parseMethodDescriptor yX8_isPlace.desc).map (fun d => d.parameters.length) = some 1 := by decide +kernel
theorem lm_X8_99 : Cond.methodLink RX8 99 yX8_isPlace ∈ zTbl := zmem 1100 (by decide +kernel) rfl
theorem q2_X8_comes : Cond.instanceMethod yX8_comes ∈ zTbl := zmem 1106 (by decide +kernel) rfl
theorem q3_X8_comes : Cond.selects RX8 yX8_comes yX8_comes ∈ zTbl := zmem 38 (by decide +kernel) rfl
theorem q5_X8_comes : Cond.code yX8_comes cX8_comes 3 none ∈ zTbl := zmem 1107 (by decide +kernel) rfl
theorem qd_X8_comes : yX8_comes.cls ≠ "java/lang/invoke/MethodHandle" ∧ yX8_comes.cls ≠ "java/lang/invoke/VarHandle" ∧ (parseMethodDescriptor yX8_comes.desc).map (fun d => d.parameters.length) = some 2 := by decide +kernel
theorem lm_X8_102 : Cond.methodLink RX8 102 yX8_comes ∈ zTbl := zmem 1104 (by decide +kernel) rfl
theorem q2_X8_isOne : Cond.instanceMethod yX8_isOne ∈ zTbl := zmem 1114 (by decide +kernel) rfl
theorem q3_X8_isOne : Cond.selects RX8 yX8_isOne yX8_isOne ∈ zTbl := zmem 39 (by decide +kernel) rfl
theorem q5_X8_isOne : Cond.code yX8_isOne cX8_isOne 2 (some .boolean) ∈ zTbl := zmem 1115 (by decide +kernel) rfl
theorem qd_X8_isOne : yX8_isOne.cls ≠ "java/lang/invoke/MethodHandle" ∧ yX8_isOne.cls ≠ "java/lang/invoke/VarHandle" ∧ (parseMethodDescriptor yX8_isOne.desc).map (fun d => d.parameters.length) = some 1 := by decide +kernel
theorem lm_X8_106 : Cond.methodLink RX8 106 yX8_isOne ∈ zTbl := zmem 1112 (by decide +kernel) rfl
theorem q2_X8_roomOf : Cond.instanceMethod yX8_roomOf ∈ zTbl := zmem 1134 (by decide +kernel) rfl
theorem q3_X8_roomOf : Cond.selects RX8 yX8_roomOf yX8_roomOf ∈ zTbl := zmem 41 (by decide +kernel) rfl
theorem q5_X8_roomOf : Cond.code yX8_roomOf cX8_roomOf 2 (some .int) ∈ zTbl := zmem 1135 (by decide +kernel) rfl
theorem qd_X8_roomOf : yX8_roomOf.cls ≠ "java/lang/invoke/MethodHandle" ∧ yX8_roomOf.cls ≠ "java/lang/invoke/VarHandle" ∧ (parseMethodDescriptor yX8_roomOf.desc).map (fun d => d.parameters.length) = some 1 := by decide +kernel
theorem lm_X8_109 : Cond.methodLink RX8 109 yX8_roomOf ∈ zTbl := zmem 1132 (by decide +kernel) rfl
theorem q2_X8_canWalk : Cond.instanceMethod yX8_canWalk ∈ zTbl := zmem 1130 (by decide +kernel) rfl
theorem q3_X8_canWalk : Cond.selects RX8 yX8_canWalk yX8_canWalk ∈ zTbl := zmem 40 (by decide +kernel) rfl
theorem q5_X8_canWalk : Cond.code yX8_canWalk cX8_canWalk 3 (some .boolean) ∈ zTbl := zmem 1131 (by decide +kernel) rfl
theorem qd_X8_canWalk : yX8_canWalk.cls ≠ "java/lang/invoke/MethodHandle" ∧ yX8_canWalk.cls ≠ "java/lang/invoke/VarHandle" ∧ (parseMethodDescriptor yX8_canWalk.desc).map (fun d => d.parameters.length) = some 2 := by decide +kernel
theorem lm_X8_112 : Cond.methodLink RX8 112 yX8_canWalk ∈ zTbl := zmem 1128 (by decide +kernel) rfl
theorem q2_X8_levelOf : Cond.instanceMethod yX8_levelOf ∈ zTbl := zmem 1138 (by decide +kernel) rfl
theorem q3_X8_levelOf : Cond.selects RX8 yX8_levelOf yX8_levelOf ∈ zTbl := zmem 42 (by decide +kernel) rfl
theorem q5_X8_levelOf : Cond.code yX8_levelOf cX8_levelOf 2 (some .int) ∈ zTbl := zmem 1139 (by decide +kernel) rfl
theorem qd_X8_levelOf : yX8_levelOf.cls ≠ "java/lang/invoke/MethodHandle" ∧ yX8_levelOf.cls ≠ "java/lang/invoke/VarHandle" ∧ (parseMethodDescriptor yX8_levelOf.desc).map (fun d => d.parameters.length) = some 1 := by decide +kernel
theorem lm_X8_115 : Cond.methodLink RX8 115 yX8_levelOf ∈ zTbl := zmem 1136 (by decide +kernel) rfl
theorem q2_X8_goes : Cond.instanceMethod yX8_goes ∈ zTbl := zmem 1142 (by decide +kernel) rfl
theorem q3_X8_goes : Cond.selects RX8 yX8_goes yX8_goes ∈ zTbl := zmem 43 (by decide +kernel) rfl
theorem q5_X8_goes : Cond.code yX8_goes cX8_goes 4 none ∈ zTbl := zmem 1143 (by decide +kernel) rfl
theorem qd_X8_goes : yX8_goes.cls ≠ "java/lang/invoke/MethodHandle" ∧ yX8_goes.cls ≠ "java/lang/invoke/VarHandle" ∧ (parseMethodDescriptor yX8_goes.desc).map (fun d => d.parameters.length) = some 3 := by decide +kernel
theorem lm_X8_118 : Cond.methodLink RX8 118 yX8_goes ∈ zTbl := zmem 1140 (by decide +kernel) rfl
theorem q2_X8_isBefore : Cond.instanceMethod yX8_isBefore ∈ zTbl := zmem 1150 (by decide +kernel) rfl
theorem q3_X8_isBefore : Cond.selects RX8 yX8_isBefore yX8_isBefore ∈ zTbl := zmem 44 (by decide +kernel) rfl
theorem q5_X8_isBefore : Cond.code yX8_isBefore cX8_isBefore 2 (some .boolean) ∈ zTbl := zmem 1151 (by decide +kernel) rfl
theorem qd_X8_isBefore : yX8_isBefore.cls ≠ "java/lang/invoke/MethodHandle" ∧ yX8_isBefore.cls ≠ "java/lang/invoke/VarHandle" ∧ (parseMethodDescriptor yX8_isBefore.desc).map (fun d => d.parameters.length) = some 1 := by decide +kernel
theorem lm_X8_121 : Cond.methodLink RX8 121 yX8_isBefore ∈ zTbl := zmem 1148 (by decide +kernel) rfl
theorem lm_X8_124 : Cond.methodLink RX8 124 Lib.Math.min.name ∈ zTbl := zmem 1172 (by decide +kernel) rfl
theorem q2_X8_canCarry : Cond.instanceMethod yX8_canCarry ∈ zTbl := zmem 1162 (by decide +kernel) rfl
theorem q3_X8_canCarry : Cond.selects RX8 yX8_canCarry yX8_canCarry ∈ zTbl := zmem 45 (by decide +kernel) rfl
theorem q5_X8_canCarry : Cond.code yX8_canCarry cX8_canCarry 4 (some .boolean) ∈ zTbl := zmem 1163 (by decide +kernel) rfl
theorem qd_X8_canCarry : yX8_canCarry.cls ≠ "java/lang/invoke/MethodHandle" ∧ yX8_canCarry.cls ≠ "java/lang/invoke/VarHandle" ∧ (parseMethodDescriptor yX8_canCarry.desc).map (fun d => d.parameters.length) = some 3 := by decide +kernel
theorem lm_X8_129 : Cond.methodLink RX8 129 yX8_canCarry ∈ zTbl := zmem 1160 (by decide +kernel) rfl
theorem q2_X8_standing : Cond.instanceMethod yX8_standing ∈ zTbl := zmem 1166 (by decide +kernel) rfl
theorem q3_X8_standing : Cond.selects RX8 yX8_standing yX8_standing ∈ zTbl := zmem 46 (by decide +kernel) rfl
theorem q5_X8_standing : Cond.code yX8_standing cX8_standing 5 (some .int) ∈ zTbl := zmem 1167 (by decide +kernel) rfl
theorem qd_X8_standing : yX8_standing.cls ≠ "java/lang/invoke/MethodHandle" ∧ yX8_standing.cls ≠ "java/lang/invoke/VarHandle" ∧ (parseMethodDescriptor yX8_standing.desc).map (fun d => d.parameters.length) = some 2 := by decide +kernel
theorem lm_X8_133 : Cond.methodLink RX8 133 yX8_standing ∈ zTbl := zmem 1164 (by decide +kernel) rfl
theorem q2_X8_brings : Cond.instanceMethod yX8_brings ∈ zTbl := zmem 1170 (by decide +kernel) rfl
theorem q3_X8_brings : Cond.selects RX8 yX8_brings yX8_brings ∈ zTbl := zmem 47 (by decide +kernel) rfl
theorem q5_X8_brings : Cond.code yX8_brings cX8_brings 6 (some .int) ∈ zTbl := zmem 1171 (by decide +kernel) rfl
theorem qd_X8_brings : yX8_brings.cls ≠ "java/lang/invoke/MethodHandle" ∧ yX8_brings.cls ≠ "java/lang/invoke/VarHandle" ∧ (parseMethodDescriptor yX8_brings.desc).map (fun d => d.parameters.length) = some 4 := by decide +kernel
theorem lm_X8_136 : Cond.methodLink RX8 136 yX8_brings ∈ zTbl := zmem 1168 (by decide +kernel) rfl
theorem q2_X8_canReach : Cond.instanceMethod yX8_canReach ∈ zTbl := zmem 1179 (by decide +kernel) rfl
theorem q3_X8_canReach : Cond.selects RX8 yX8_canReach yX8_canReach ∈ zTbl := zmem 48 (by decide +kernel) rfl
theorem q5_X8_canReach : Cond.code yX8_canReach cX8_canReach 4 (some .boolean) ∈ zTbl := zmem 1180 (by decide +kernel) rfl
theorem qd_X8_canReach : yX8_canReach.cls ≠ "java/lang/invoke/MethodHandle" ∧ yX8_canReach.cls ≠ "java/lang/invoke/VarHandle" ∧ (parseMethodDescriptor yX8_canReach.desc).map (fun d => d.parameters.length) = some 3 := by decide +kernel
theorem lm_X8_140 : Cond.methodLink RX8 140 yX8_canReach ∈ zTbl := zmem 1177 (by decide +kernel) rfl
theorem lj_X8_143 : Cond.constantLong RX8 143 4 ∈ zTbl := zmem 1193 (by decide +kernel) rfl
theorem lf_X8_25 : Cond.fieldLink RX8 25 RX8 (TX8 7).2.1 (TX8 7).2.2.1 ∈ zTbl := zmem 985 (by decide +kernel) rfl
theorem lf_X8_28 : Cond.fieldLink RX8 28 RX8 (TX8 8).2.1 (TX8 8).2.2.1 ∈ zTbl := zmem 986 (by decide +kernel) rfl
theorem lf_X8_145 : Cond.fieldLink RX8 145 RX8 (TX8 9).2.1 (TX8 9).2.2.1 ∈ zTbl := zmem 987 (by decide +kernel) rfl
theorem q2_X8_finds : Cond.instanceMethod yX8_finds ∈ zTbl := zmem 1204 (by decide +kernel) rfl
theorem q3_X8_finds : Cond.selects RX8 yX8_finds yX8_finds ∈ zTbl := zmem 50 (by decide +kernel) rfl
theorem q5_X8_finds : Cond.code yX8_finds cX8_finds 5 none ∈ zTbl := zmem 1205 (by decide +kernel) rfl
theorem qd_X8_finds : yX8_finds.cls ≠ "java/lang/invoke/MethodHandle" ∧ yX8_finds.cls ≠ "java/lang/invoke/VarHandle" ∧ (parseMethodDescriptor yX8_finds.desc).map (fun d => d.parameters.length) = some 3 := by decide +kernel
theorem lm_X8_149 : Cond.methodLink RX8 149 yX8_finds ∈ zTbl := zmem 1202 (by decide +kernel) rfl
theorem lf_X8_152 : Cond.fieldLink RX8 152 RX8 (TX8 10).2.1 (TX8 10).2.2.1 ∈ zTbl := zmem 988 (by decide +kernel) rfl
theorem q2_X8_stepsFrom : Cond.instanceMethod yX8_stepsFrom ∈ zTbl := zmem 1208 (by decide +kernel) rfl
theorem q3_X8_stepsFrom : Cond.selects RX8 yX8_stepsFrom yX8_stepsFrom ∈ zTbl := zmem 51 (by decide +kernel) rfl
theorem q5_X8_stepsFrom : Cond.code yX8_stepsFrom cX8_stepsFrom 13 none ∈ zTbl := zmem 1209 (by decide +kernel) rfl
theorem qd_X8_stepsFrom : yX8_stepsFrom.cls ≠ "java/lang/invoke/MethodHandle" ∧ yX8_stepsFrom.cls ≠ "java/lang/invoke/VarHandle" ∧ (parseMethodDescriptor yX8_stepsFrom.desc).map (fun d => d.parameters.length) = some 6 := by decide +kernel
theorem lm_X8_155 : Cond.methodLink RX8 155 yX8_stepsFrom ∈ zTbl := zmem 1206 (by decide +kernel) rfl
theorem q2_X8_walksAll : Cond.instanceMethod yX8_walksAll ∈ zTbl := zmem 1200 (by decide +kernel) rfl
theorem q3_X8_walksAll : Cond.selects RX8 yX8_walksAll yX8_walksAll ∈ zTbl := zmem 49 (by decide +kernel) rfl
theorem q5_X8_walksAll : Cond.code yX8_walksAll cX8_walksAll 5 none ∈ zTbl := zmem 1201 (by decide +kernel) rfl
theorem qd_X8_walksAll : yX8_walksAll.cls ≠ "java/lang/invoke/MethodHandle" ∧ yX8_walksAll.cls ≠ "java/lang/invoke/VarHandle" ∧ (parseMethodDescriptor yX8_walksAll.desc).map (fun d => d.parameters.length) = some 3 := by decide +kernel
theorem lm_X8_159 : Cond.methodLink RX8 159 yX8_walksAll ∈ zTbl := zmem 1198 (by decide +kernel) rfl
theorem q2_X8_orNone : Cond.instanceMethod yX8_orNone ∈ zTbl := zmem 1216 (by decide +kernel) rfl
theorem q3_X8_orNone : Cond.selects RX8 yX8_orNone yX8_orNone ∈ zTbl := zmem 52 (by decide +kernel) rfl
theorem q5_X8_orNone : Cond.code yX8_orNone cX8_orNone 2 (some .int) ∈ zTbl := zmem 1217 (by decide +kernel) rfl
theorem qd_X8_orNone : yX8_orNone.cls ≠ "java/lang/invoke/MethodHandle" ∧ yX8_orNone.cls ≠ "java/lang/invoke/VarHandle" ∧ (parseMethodDescriptor yX8_orNone.desc).map (fun d => d.parameters.length) = some 1 := by decide +kernel
theorem lm_X8_162 : Cond.methodLink RX8 162 yX8_orNone ∈ zTbl := zmem 1214 (by decide +kernel) rfl
theorem q2_X8_leastFor : Cond.instanceMethod yX8_leastFor ∈ zTbl := zmem 1232 (by decide +kernel) rfl
theorem q3_X8_leastFor : Cond.selects RX8 yX8_leastFor yX8_leastFor ∈ zTbl := zmem 55 (by decide +kernel) rfl
theorem q5_X8_leastFor : Cond.code yX8_leastFor cX8_leastFor 5 (some .int) ∈ zTbl := zmem 1233 (by decide +kernel) rfl
theorem qd_X8_leastFor : yX8_leastFor.cls ≠ "java/lang/invoke/MethodHandle" ∧ yX8_leastFor.cls ≠ "java/lang/invoke/VarHandle" ∧ (parseMethodDescriptor yX8_leastFor.desc).map (fun d => d.parameters.length) = some 1 := by decide +kernel
theorem lm_X8_165 : Cond.methodLink RX8 165 yX8_leastFor ∈ zTbl := zmem 1230 (by decide +kernel) rfl
theorem q2_X8_isTask : Cond.instanceMethod yX8_isTask ∈ zTbl := zmem 1224 (by decide +kernel) rfl
theorem q3_X8_isTask : Cond.selects RX8 yX8_isTask yX8_isTask ∈ zTbl := zmem 53 (by decide +kernel) rfl
theorem q5_X8_isTask : Cond.code yX8_isTask cX8_isTask 4 (some .boolean) ∈ zTbl := zmem 1225 (by decide +kernel) rfl
theorem qd_X8_isTask : yX8_isTask.cls ≠ "java/lang/invoke/MethodHandle" ∧ yX8_isTask.cls ≠ "java/lang/invoke/VarHandle" ∧ (parseMethodDescriptor yX8_isTask.desc).map (fun d => d.parameters.length) = some 3 := by decide +kernel
theorem lm_X8_168 : Cond.methodLink RX8 168 yX8_isTask ∈ zTbl := zmem 1222 (by decide +kernel) rfl
theorem q2_X8_stepsOf : Cond.instanceMethod yX8_stepsOf ∈ zTbl := zmem 1228 (by decide +kernel) rfl
theorem q3_X8_stepsOf : Cond.selects RX8 yX8_stepsOf yX8_stepsOf ∈ zTbl := zmem 54 (by decide +kernel) rfl
theorem q5_X8_stepsOf : Cond.code yX8_stepsOf cX8_stepsOf 4 (some .int) ∈ zTbl := zmem 1229 (by decide +kernel) rfl
theorem qd_X8_stepsOf : yX8_stepsOf.cls ≠ "java/lang/invoke/MethodHandle" ∧ yX8_stepsOf.cls ≠ "java/lang/invoke/VarHandle" ∧ (parseMethodDescriptor yX8_stepsOf.desc).map (fun d => d.parameters.length) = some 3 := by decide +kernel
theorem lm_X8_171 : Cond.methodLink RX8 171 yX8_stepsOf ∈ zTbl := zmem 1226 (by decide +kernel) rfl
theorem lf_X8_174 : Cond.fieldLink RX8 174 RX8 (TX8 11).2.1 (TX8 11).2.2.1 ∈ zTbl := zmem 989 (by decide +kernel) rfl
theorem lf_X8_177 : Cond.fieldLink RX8 177 RX8 (TX8 12).2.1 (TX8 12).2.2.1 ∈ zTbl := zmem 990 (by decide +kernel) rfl
theorem q2_X8_begins : Cond.instanceMethod yX8_begins ∈ zTbl := zmem 1240 (by decide +kernel) rfl
theorem q3_X8_begins : Cond.selects RX8 yX8_begins yX8_begins ∈ zTbl := zmem 56 (by decide +kernel) rfl
theorem q5_X8_begins : Cond.code yX8_begins cX8_begins 1 none ∈ zTbl := zmem 1241 (by decide +kernel) rfl
theorem qd_X8_begins : yX8_begins.cls ≠ "java/lang/invoke/MethodHandle" ∧ yX8_begins.cls ≠ "java/lang/invoke/VarHandle" ∧ (parseMethodDescriptor yX8_begins.desc).map (fun d => d.parameters.length) = some 0 := by decide +kernel
theorem lm_X8_180 : Cond.methodLink RX8 180 yX8_begins ∈ zTbl := zmem 1238 (by decide +kernel) rfl
theorem q2_X8_tries : Cond.instanceMethod yX8_tries ∈ zTbl := zmem 1244 (by decide +kernel) rfl
theorem q3_X8_tries : Cond.selects RX8 yX8_tries yX8_tries ∈ zTbl := zmem 57 (by decide +kernel) rfl
theorem q5_X8_tries : Cond.code yX8_tries cX8_tries 3 none ∈ zTbl := zmem 1245 (by decide +kernel) rfl
theorem qd_X8_tries : yX8_tries.cls ≠ "java/lang/invoke/MethodHandle" ∧ yX8_tries.cls ≠ "java/lang/invoke/VarHandle" ∧ (parseMethodDescriptor yX8_tries.desc).map (fun d => d.parameters.length) = some 2 := by decide +kernel
theorem lm_X8_183 : Cond.methodLink RX8 183 yX8_tries ∈ zTbl := zmem 1242 (by decide +kernel) rfl
theorem q2_X8_roomsFor : Cond.instanceMethod yX8_roomsFor ∈ zTbl := zmem 1252 (by decide +kernel) rfl
theorem q3_X8_roomsFor : Cond.selects RX8 yX8_roomsFor yX8_roomsFor ∈ zTbl := zmem 58 (by decide +kernel) rfl
theorem q5_X8_roomsFor : Cond.code yX8_roomsFor cX8_roomsFor 6 (some .int) ∈ zTbl := zmem 1253 (by decide +kernel) rfl
theorem qd_X8_roomsFor : yX8_roomsFor.cls ≠ "java/lang/invoke/MethodHandle" ∧ yX8_roomsFor.cls ≠ "java/lang/invoke/VarHandle" ∧ (parseMethodDescriptor yX8_roomsFor.desc).map (fun d => d.parameters.length) = some 3 := by decide +kernel
theorem lm_X8_186 : Cond.methodLink RX8 186 yX8_roomsFor ∈ zTbl := zmem 1250 (by decide +kernel) rfl
theorem q2_X8_isSafe : Cond.instanceMethod yX8_isSafe ∈ zTbl := zmem 1276 (by decide +kernel) rfl
theorem q3_X8_isSafe : Cond.selects RX8 yX8_isSafe yX8_isSafe ∈ zTbl := zmem 59 (by decide +kernel) rfl
theorem q5_X8_isSafe : Cond.code yX8_isSafe cX8_isSafe 4 (some .boolean) ∈ zTbl := zmem 1277 (by decide +kernel) rfl
theorem qd_X8_isSafe : yX8_isSafe.cls ≠ "java/lang/invoke/MethodHandle" ∧ yX8_isSafe.cls ≠ "java/lang/invoke/VarHandle" ∧ (parseMethodDescriptor yX8_isSafe.desc).map (fun d => d.parameters.length) = some 1 := by decide +kernel
theorem lm_X8_190 : Cond.methodLink RX8 190 yX8_isSafe ∈ zTbl := zmem 1274 (by decide +kernel) rfl
theorem q2_X8_isReach : Cond.instanceMethod yX8_isReach ∈ zTbl := zmem 1288 (by decide +kernel) rfl
theorem q3_X8_isReach : Cond.selects RX8 yX8_isReach yX8_isReach ∈ zTbl := zmem 60 (by decide +kernel) rfl
theorem q5_X8_isReach : Cond.code yX8_isReach cX8_isReach 2 (some .boolean) ∈ zTbl := zmem 1289 (by decide +kernel) rfl
theorem qd_X8_isReach : yX8_isReach.cls ≠ "java/lang/invoke/MethodHandle" ∧ yX8_isReach.cls ≠ "java/lang/invoke/VarHandle" ∧ (parseMethodDescriptor yX8_isReach.desc).map (fun d => d.parameters.length) = some 1 := by decide +kernel
theorem lm_X8_193 : Cond.methodLink RX8 193 yX8_isReach ∈ zTbl := zmem 1286 (by decide +kernel) rfl
theorem q2_X8_lends : Cond.instanceMethod yX8_lends ∈ zTbl := zmem 1292 (by decide +kernel) rfl
theorem q3_X8_lends : Cond.selects RX8 yX8_lends yX8_lends ∈ zTbl := zmem 61 (by decide +kernel) rfl
theorem q5_X8_lends : Cond.code yX8_lends cX8_lends 1 none ∈ zTbl := zmem 1293 (by decide +kernel) rfl
theorem qd_X8_lends : yX8_lends.cls ≠ "java/lang/invoke/MethodHandle" ∧ yX8_lends.cls ≠ "java/lang/invoke/VarHandle" ∧ (parseMethodDescriptor yX8_lends.desc).map (fun d => d.parameters.length) = some 0 := by decide +kernel
theorem lm_X8_196 : Cond.methodLink RX8 196 yX8_lends ∈ zTbl := zmem 1290 (by decide +kernel) rfl
theorem q2_X8_reaches : Cond.instanceMethod yX8_reaches ∈ zTbl := zmem 1299 (by decide +kernel) rfl
theorem q3_X8_reaches : Cond.selects RX8 yX8_reaches yX8_reaches ∈ zTbl := zmem 62 (by decide +kernel) rfl
theorem q5_X8_reaches : Cond.code yX8_reaches cX8_reaches 3 none ∈ zTbl := zmem 1300 (by decide +kernel) rfl
theorem qd_X8_reaches : yX8_reaches.cls ≠ "java/lang/invoke/MethodHandle" ∧ yX8_reaches.cls ≠ "java/lang/invoke/VarHandle" ∧ (parseMethodDescriptor yX8_reaches.desc).map (fun d => d.parameters.length) = some 2 := by decide +kernel
theorem lm_X8_199 : Cond.methodLink RX8 199 yX8_reaches ∈ zTbl := zmem 1297 (by decide +kernel) rfl
theorem q2_X8_laysBack : Cond.instanceMethod yX8_laysBack ∈ zTbl := zmem 1303 (by decide +kernel) rfl
theorem q3_X8_laysBack : Cond.selects RX8 yX8_laysBack yX8_laysBack ∈ zTbl := zmem 63 (by decide +kernel) rfl
theorem q5_X8_laysBack : Cond.code yX8_laysBack cX8_laysBack 1 none ∈ zTbl := zmem 1304 (by decide +kernel) rfl
theorem qd_X8_laysBack : yX8_laysBack.cls ≠ "java/lang/invoke/MethodHandle" ∧ yX8_laysBack.cls ≠ "java/lang/invoke/VarHandle" ∧ (parseMethodDescriptor yX8_laysBack.desc).map (fun d => d.parameters.length) = some 0 := by decide +kernel
theorem lm_X8_202 : Cond.methodLink RX8 202 yX8_laysBack ∈ zTbl := zmem 1301 (by decide +kernel) rfl
theorem lj_X8_205 : Cond.constantLong RX8 205 4000000000000000000 ∈ zTbl := zmem 1320 (by decide +kernel) rfl
theorem lj_X8_207 : Cond.constantLong RX8 207 (-1) ∈ zTbl := zmem 1321 (by decide +kernel) rfl
theorem lj_X8_209 : Cond.constantLong RX8 209 9 ∈ zTbl := zmem 1316 (by decide +kernel) rfl
theorem q2_X8_isHouses : Cond.static yX8_isHouses ∈ zTbl := zmem 1314 (by decide +kernel) rfl
theorem q5_X8_isHouses : Cond.code yX8_isHouses cX8_isHouses 3 (some .boolean) ∈ zTbl := zmem 1315 (by decide +kernel) rfl
theorem qd_X8_isHouses : yX8_isHouses.cls ≠ "java/lang/invoke/MethodHandle" ∧ yX8_isHouses.cls ≠ "java/lang/invoke/VarHandle" ∧ (parseMethodDescriptor yX8_isHouses.desc).map (fun d => d.parameters.length) = some 3 := by decide +kernel
theorem lm_X8_211 : Cond.methodLink RX8 211 yX8_isHouses ∈ zTbl := zmem 1313 (by decide +kernel) rfl
theorem q2_X8_power : Cond.static yX8_power ∈ zTbl := zmem 1318 (by decide +kernel) rfl
theorem q5_X8_power : Cond.code yX8_power cX8_power 5 (some .long) ∈ zTbl := zmem 1319 (by decide +kernel) rfl
theorem qd_X8_power : yX8_power.cls ≠ "java/lang/invoke/MethodHandle" ∧ yX8_power.cls ≠ "java/lang/invoke/VarHandle" ∧ (parseMethodDescriptor yX8_power.desc).map (fun d => d.parameters.length) = some 2 := by decide +kernel
theorem lm_X8_214 : Cond.methodLink RX8 214 yX8_power ∈ zTbl := zmem 1317 (by decide +kernel) rfl
theorem lj_X8_218 : Cond.constantLong RX8 218 2 ∈ zTbl := zmem 1330 (by decide +kernel) rfl
theorem q2_X8_divisor : Cond.static yX8_divisor ∈ zTbl := zmem 1332 (by decide +kernel) rfl
theorem q5_X8_divisor : Cond.code yX8_divisor cX8_divisor 10 (some .long) ∈ zTbl := zmem 1333 (by decide +kernel) rfl
theorem qd_X8_divisor : yX8_divisor.cls ≠ "java/lang/invoke/MethodHandle" ∧ yX8_divisor.cls ≠ "java/lang/invoke/VarHandle" ∧ (parseMethodDescriptor yX8_divisor.desc).map (fun d => d.parameters.length) = some 2 := by decide +kernel
theorem lm_X8_220 : Cond.methodLink RX8 220 yX8_divisor ∈ zTbl := zmem 1331 (by decide +kernel) rfl
theorem lj_X8_224 : Cond.constantLong RX8 224 1000000000000 ∈ zTbl := zmem 1334 (by decide +kernel) rfl
theorem lj_X8_226 : Cond.constantLong RX8 226 2000000000 ∈ zTbl := zmem 1339 (by decide +kernel) rfl
theorem lk_X8_228 : Cond.constant RX8 228 1103515245 ∈ zTbl := zmem 1360 (by decide +kernel) rfl
theorem q2_X8_draw : Cond.instanceMethod yX8_draw ∈ zTbl := zmem 1358 (by decide +kernel) rfl
theorem q3_X8_draw : Cond.selects RX8 yX8_draw yX8_draw ∈ zTbl := zmem 67 (by decide +kernel) rfl
theorem q5_X8_draw : Cond.code yX8_draw cX8_draw 1 (some .int) ∈ zTbl := zmem 1359 (by decide +kernel) rfl
theorem qd_X8_draw : yX8_draw.cls ≠ "java/lang/invoke/MethodHandle" ∧ yX8_draw.cls ≠ "java/lang/invoke/VarHandle" ∧ (parseMethodDescriptor yX8_draw.desc).map (fun d => d.parameters.length) = some 0 := by decide +kernel
theorem lm_X8_229 : Cond.methodLink RX8 229 yX8_draw ∈ zTbl := zmem 1356 (by decide +kernel) rfl
theorem q2_X8_dayOf : Cond.instanceMethod yX8_dayOf ∈ zTbl := zmem 1354 (by decide +kernel) rfl
theorem q3_X8_dayOf : Cond.selects RX8 yX8_dayOf yX8_dayOf ∈ zTbl := zmem 66 (by decide +kernel) rfl
theorem q5_X8_dayOf : Cond.code yX8_dayOf cX8_dayOf 6 none ∈ zTbl := zmem 1355 (by decide +kernel) rfl
theorem qd_X8_dayOf : yX8_dayOf.cls ≠ "java/lang/invoke/MethodHandle" ∧ yX8_dayOf.cls ≠ "java/lang/invoke/VarHandle" ∧ (parseMethodDescriptor yX8_dayOf.desc).map (fun d => d.parameters.length) = some 1 := by decide +kernel
theorem lm_X8_233 : Cond.methodLink RX8 233 yX8_dayOf ∈ zTbl := zmem 1352 (by decide +kernel) rfl
theorem q2_X8_aDay : Cond.instanceMethod yX8_aDay ∈ zTbl := zmem 1350 (by decide +kernel) rfl
theorem q3_X8_aDay : Cond.selects RX8 yX8_aDay yX8_aDay ∈ zTbl := zmem 65 (by decide +kernel) rfl
theorem q5_X8_aDay : Cond.code yX8_aDay cX8_aDay 2 none ∈ zTbl := zmem 1351 (by decide +kernel) rfl
theorem qd_X8_aDay : yX8_aDay.cls ≠ "java/lang/invoke/MethodHandle" ∧ yX8_aDay.cls ≠ "java/lang/invoke/VarHandle" ∧ (parseMethodDescriptor yX8_aDay.desc).map (fun d => d.parameters.length) = some 0 := by decide +kernel
theorem lm_X8_237 : Cond.methodLink RX8 237 yX8_aDay ∈ zTbl := zmem 1348 (by decide +kernel) rfl
theorem q2_X8_daysGo : Cond.instanceMethod yX8_daysGo ∈ zTbl := zmem 1346 (by decide +kernel) rfl
theorem q3_X8_daysGo : Cond.selects RX8 yX8_daysGo yX8_daysGo ∈ zTbl := zmem 64 (by decide +kernel) rfl
theorem q5_X8_daysGo : Cond.code yX8_daysGo cX8_daysGo 4 (some .int) ∈ zTbl := zmem 1347 (by decide +kernel) rfl
theorem qd_X8_daysGo : yX8_daysGo.cls ≠ "java/lang/invoke/MethodHandle" ∧ yX8_daysGo.cls ≠ "java/lang/invoke/VarHandle" ∧ (parseMethodDescriptor yX8_daysGo.desc).map (fun d => d.parameters.length) = some 1 := by decide +kernel
theorem lm_X8_240 : Cond.methodLink RX8 240 yX8_daysGo ∈ zTbl := zmem 1344 (by decide +kernel) rfl
theorem lf_X8_243 : Cond.fieldLink RX8 243 RX8 (TX8 5).2.1 (TX8 5).2.2.1 ∈ zTbl := zmem 983 (by decide +kernel) rfl
theorem lf_X8_19 : Cond.fieldLink RX8 19 RX8 (TX8 4).2.1 (TX8 4).2.2.1 ∈ zTbl := zmem 982 (by decide +kernel) rfl
theorem lf_X8_246 : Cond.fieldLink RX8 246 RX8 (TX8 14).2.1 (TX8 14).2.2.1 ∈ zTbl := zmem 992 (by decide +kernel) rfl
theorem lf_X8_249 : Cond.fieldLink RX8 249 RX8 (TX8 13).2.1 (TX8 13).2.2.1 ∈ zTbl := zmem 991 (by decide +kernel) rfl
theorem q2_X8_isByte : Cond.instanceMethod yX8_isByte ∈ zTbl := zmem 1391 (by decide +kernel) rfl
theorem q3_X8_isByte : Cond.selects RX8 yX8_isByte yX8_isByte ∈ zTbl := zmem 69 (by decide +kernel) rfl
theorem q5_X8_isByte : Cond.code yX8_isByte cX8_isByte 4 (some .boolean) ∈ zTbl := zmem 1392 (by decide +kernel) rfl
theorem qd_X8_isByte : yX8_isByte.cls ≠ "java/lang/invoke/MethodHandle" ∧ yX8_isByte.cls ≠ "java/lang/invoke/VarHandle" ∧ (parseMethodDescriptor yX8_isByte.desc).map (fun d => d.parameters.length) = some 3 := by decide +kernel
theorem lm_X8_252 : Cond.methodLink RX8 252 yX8_isByte ∈ zTbl := zmem 1389 (by decide +kernel) rfl
theorem lf_X8_255 : Cond.fieldLink RX8 255 RX8 (TX8 15).2.1 (TX8 15).2.2.1 ∈ zTbl := zmem 993 (by decide +kernel) rfl
theorem lm_X8_259 : Cond.methodLink RX8 259 yJ0_length_8abf5 ∈ zTbl := zmem 1415 (by decide +kernel) rfl
theorem lm_X8_264 : Cond.methodLink RX8 264 yJ0_charAt_5068e ∈ zTbl := zmem 1416 (by decide +kernel) rfl
theorem q2_X8_isWord : Cond.instanceMethod yX8_isWord ∈ zTbl := zmem 1413 (by decide +kernel) rfl
theorem q3_X8_isWord : Cond.selects RX8 yX8_isWord yX8_isWord ∈ zTbl := zmem 72 (by decide +kernel) rfl
theorem q5_X8_isWord : Cond.code yX8_isWord cX8_isWord 4 (some .boolean) ∈ zTbl := zmem 1414 (by decide +kernel) rfl
theorem qd_X8_isWord : yX8_isWord.cls ≠ "java/lang/invoke/MethodHandle" ∧ yX8_isWord.cls ≠ "java/lang/invoke/VarHandle" ∧ (parseMethodDescriptor yX8_isWord.desc).map (fun d => d.parameters.length) = some 1 := by decide +kernel
theorem lm_X8_268 : Cond.methodLink RX8 268 yX8_isWord ∈ zTbl := zmem 1411 (by decide +kernel) rfl
theorem q2_X8_next : Cond.instanceMethod yX8_next ∈ zTbl := zmem 1387 (by decide +kernel) rfl
theorem q3_X8_next : Cond.selects RX8 yX8_next yX8_next ∈ zTbl := zmem 68 (by decide +kernel) rfl
theorem q5_X8_next : Cond.code yX8_next cX8_next 3 none ∈ zTbl := zmem 1388 (by decide +kernel) rfl
theorem qd_X8_next : yX8_next.cls ≠ "java/lang/invoke/MethodHandle" ∧ yX8_next.cls ≠ "java/lang/invoke/VarHandle" ∧ (parseMethodDescriptor yX8_next.desc).map (fun d => d.parameters.length) = some 0 := by decide +kernel
theorem lm_X8_272 : Cond.methodLink RX8 272 yX8_next ∈ zTbl := zmem 1385 (by decide +kernel) rfl
theorem q2_X8_numberHere : Cond.instanceMethod yX8_numberHere ∈ zTbl := zmem 1432 (by decide +kernel) rfl
theorem q3_X8_numberHere : Cond.selects RX8 yX8_numberHere yX8_numberHere ∈ zTbl := zmem 76 (by decide +kernel) rfl
theorem q5_X8_numberHere : Cond.code yX8_numberHere cX8_numberHere 3 (some .int) ∈ zTbl := zmem 1433 (by decide +kernel) rfl
theorem qd_X8_numberHere : yX8_numberHere.cls ≠ "java/lang/invoke/MethodHandle" ∧ yX8_numberHere.cls ≠ "java/lang/invoke/VarHandle" ∧ (parseMethodDescriptor yX8_numberHere.desc).map (fun d => d.parameters.length) = some 0 := by decide +kernel
theorem lm_X8_275 : Cond.methodLink RX8 275 yX8_numberHere ∈ zTbl := zmem 1430 (by decide +kernel) rfl
theorem q2_X8_wordOf : Cond.static yX8_wordOf ∈ zTbl := zmem 1402 (by decide +kernel) rfl
theorem q5_X8_wordOf : Cond.code yX8_wordOf cX8_wordOf 1 (some (.object "java/lang/String")) ∈ zTbl := zmem 1403 (by decide +kernel) rfl
theorem qd_X8_wordOf : yX8_wordOf.cls ≠ "java/lang/invoke/MethodHandle" ∧ yX8_wordOf.cls ≠ "java/lang/invoke/VarHandle" ∧ (parseMethodDescriptor yX8_wordOf.desc).map (fun d => d.parameters.length) = some 1 := by decide +kernel
theorem lm_X8_292 : Cond.methodLink RX8 292 yX8_wordOf ∈ zTbl := zmem 1401 (by decide +kernel) rfl
theorem q2_X8_takes : Cond.instanceMethod yX8_takes ∈ zTbl := zmem 1428 (by decide +kernel) rfl
theorem q3_X8_takes : Cond.selects RX8 yX8_takes yX8_takes ∈ zTbl := zmem 75 (by decide +kernel) rfl
theorem q5_X8_takes : Cond.code yX8_takes cX8_takes 3 (some .boolean) ∈ zTbl := zmem 1429 (by decide +kernel) rfl
theorem qd_X8_takes : yX8_takes.cls ≠ "java/lang/invoke/MethodHandle" ∧ yX8_takes.cls ≠ "java/lang/invoke/VarHandle" ∧ (parseMethodDescriptor yX8_takes.desc).map (fun d => d.parameters.length) = some 1 := by decide +kernel
theorem lm_X8_296 : Cond.methodLink RX8 296 yX8_takes ∈ zTbl := zmem 1426 (by decide +kernel) rfl
theorem q2_X8_number : Cond.instanceMethod yX8_number ∈ zTbl := zmem 1436 (by decide +kernel) rfl
theorem q3_X8_number : Cond.selects RX8 yX8_number yX8_number ∈ zTbl := zmem 77 (by decide +kernel) rfl
theorem q5_X8_number : Cond.code yX8_number cX8_number 3 (some .int) ∈ zTbl := zmem 1437 (by decide +kernel) rfl
theorem qd_X8_number : yX8_number.cls ≠ "java/lang/invoke/MethodHandle" ∧ yX8_number.cls ≠ "java/lang/invoke/VarHandle" ∧ (parseMethodDescriptor yX8_number.desc).map (fun d => d.parameters.length) = some 1 := by decide +kernel
theorem lm_X8_299 : Cond.methodLink RX8 299 yX8_number ∈ zTbl := zmem 1434 (by decide +kernel) rfl
theorem q2_X8_perhaps : Cond.instanceMethod yX8_perhaps ∈ zTbl := zmem 1424 (by decide +kernel) rfl
theorem q3_X8_perhaps : Cond.selects RX8 yX8_perhaps yX8_perhaps ∈ zTbl := zmem 74 (by decide +kernel) rfl
theorem q5_X8_perhaps : Cond.code yX8_perhaps cX8_perhaps 6 (some .int) ∈ zTbl := zmem 1425 (by decide +kernel) rfl
theorem qd_X8_perhaps : yX8_perhaps.cls ≠ "java/lang/invoke/MethodHandle" ∧ yX8_perhaps.cls ≠ "java/lang/invoke/VarHandle" ∧ (parseMethodDescriptor yX8_perhaps.desc).map (fun d => d.parameters.length) = some 4 := by decide +kernel
theorem lm_X8_303 : Cond.methodLink RX8 303 yX8_perhaps ∈ zTbl := zmem 1422 (by decide +kernel) rfl
theorem q2_X8_kindHere : Cond.instanceMethod yX8_kindHere ∈ zTbl := zmem 1399 (by decide +kernel) rfl
theorem q3_X8_kindHere : Cond.selects RX8 yX8_kindHere yX8_kindHere ∈ zTbl := zmem 71 (by decide +kernel) rfl
theorem q5_X8_kindHere : Cond.code yX8_kindHere cX8_kindHere 2 (some .int) ∈ zTbl := zmem 1400 (by decide +kernel) rfl
theorem qd_X8_kindHere : yX8_kindHere.cls ≠ "java/lang/invoke/MethodHandle" ∧ yX8_kindHere.cls ≠ "java/lang/invoke/VarHandle" ∧ (parseMethodDescriptor yX8_kindHere.desc).map (fun d => d.parameters.length) = some 0 := by decide +kernel
theorem lm_X8_313 : Cond.methodLink RX8 313 yX8_kindHere ∈ zTbl := zmem 1397 (by decide +kernel) rfl
theorem q2_X8_ruleTold : Cond.instanceMethod yX8_ruleTold ∈ zTbl := zmem 1455 (by decide +kernel) rfl
theorem q3_X8_ruleTold : Cond.selects RX8 yX8_ruleTold yX8_ruleTold ∈ zTbl := zmem 80 (by decide +kernel) rfl
theorem q5_X8_ruleTold : Cond.code yX8_ruleTold cX8_ruleTold 4 none ∈ zTbl := zmem 1456 (by decide +kernel) rfl
theorem qd_X8_ruleTold : yX8_ruleTold.cls ≠ "java/lang/invoke/MethodHandle" ∧ yX8_ruleTold.cls ≠ "java/lang/invoke/VarHandle" ∧ (parseMethodDescriptor yX8_ruleTold.desc).map (fun d => d.parameters.length) = some 2 := by decide +kernel
theorem lm_X8_334 : Cond.methodLink RX8 334 yX8_ruleTold ∈ zTbl := zmem 1453 (by decide +kernel) rfl
theorem q2_X8_doorTold : Cond.instanceMethod yX8_doorTold ∈ zTbl := zmem 1449 (by decide +kernel) rfl
theorem q3_X8_doorTold : Cond.selects RX8 yX8_doorTold yX8_doorTold ∈ zTbl := zmem 79 (by decide +kernel) rfl
theorem q5_X8_doorTold : Cond.code yX8_doorTold cX8_doorTold 4 none ∈ zTbl := zmem 1450 (by decide +kernel) rfl
theorem qd_X8_doorTold : yX8_doorTold.cls ≠ "java/lang/invoke/MethodHandle" ∧ yX8_doorTold.cls ≠ "java/lang/invoke/VarHandle" ∧ (parseMethodDescriptor yX8_doorTold.desc).map (fun d => d.parameters.length) = some 1 := by decide +kernel
theorem lm_X8_326 : Cond.methodLink RX8 326 yX8_doorTold ∈ zTbl := zmem 1447 (by decide +kernel) rfl
theorem q2_X8_oneTold : Cond.instanceMethod yX8_oneTold ∈ zTbl := zmem 1442 (by decide +kernel) rfl
theorem q3_X8_oneTold : Cond.selects RX8 yX8_oneTold yX8_oneTold ∈ zTbl := zmem 78 (by decide +kernel) rfl
theorem q5_X8_oneTold : Cond.code yX8_oneTold cX8_oneTold 4 none ∈ zTbl := zmem 1443 (by decide +kernel) rfl
theorem qd_X8_oneTold : yX8_oneTold.cls ≠ "java/lang/invoke/MethodHandle" ∧ yX8_oneTold.cls ≠ "java/lang/invoke/VarHandle" ∧ (parseMethodDescriptor yX8_oneTold.desc).map (fun d => d.parameters.length) = some 0 := by decide +kernel
theorem lm_X8_321 : Cond.methodLink RX8 321 yX8_oneTold ∈ zTbl := zmem 1440 (by decide +kernel) rfl
theorem q2_X8_thingTold : Cond.instanceMethod yX8_thingTold ∈ zTbl := zmem 1419 (by decide +kernel) rfl
theorem q3_X8_thingTold : Cond.selects RX8 yX8_thingTold yX8_thingTold ∈ zTbl := zmem 73 (by decide +kernel) rfl
theorem q5_X8_thingTold : Cond.code yX8_thingTold cX8_thingTold 4 none ∈ zTbl := zmem 1420 (by decide +kernel) rfl
theorem qd_X8_thingTold : yX8_thingTold.cls ≠ "java/lang/invoke/MethodHandle" ∧ yX8_thingTold.cls ≠ "java/lang/invoke/VarHandle" ∧ (parseMethodDescriptor yX8_thingTold.desc).map (fun d => d.parameters.length) = some 1 := by decide +kernel
theorem lm_X8_316 : Cond.methodLink RX8 316 yX8_thingTold ∈ zTbl := zmem 1417 (by decide +kernel) rfl
theorem q2_X8_item : Cond.instanceMethod yX8_item ∈ zTbl := zmem 1395 (by decide +kernel) rfl
theorem q3_X8_item : Cond.selects RX8 yX8_item yX8_item ∈ zTbl := zmem 70 (by decide +kernel) rfl
theorem q5_X8_item : Cond.code yX8_item cX8_item 2 none ∈ zTbl := zmem 1396 (by decide +kernel) rfl
theorem qd_X8_item : yX8_item.cls ≠ "java/lang/invoke/MethodHandle" ∧ yX8_item.cls ≠ "java/lang/invoke/VarHandle" ∧ (parseMethodDescriptor yX8_item.desc).map (fun d => d.parameters.length) = some 0 := by decide +kernel
theorem lm_X8_341 : Cond.methodLink RX8 341 yX8_item ∈ zTbl := zmem 1393 (by decide +kernel) rfl
theorem q2_X8_isUnder : Cond.static yX8_isUnder ∈ zTbl := zmem 1469 (by decide +kernel) rfl
theorem q5_X8_isUnder : Cond.code yX8_isUnder cX8_isUnder 3 (some .boolean) ∈ zTbl := zmem 1470 (by decide +kernel) rfl
theorem qd_X8_isUnder : yX8_isUnder.cls ≠ "java/lang/invoke/MethodHandle" ∧ yX8_isUnder.cls ≠ "java/lang/invoke/VarHandle" ∧ (parseMethodDescriptor yX8_isUnder.desc).map (fun d => d.parameters.length) = some 2 := by decide +kernel
theorem lm_X8_346 : Cond.methodLink RX8 346 yX8_isUnder ∈ zTbl := zmem 1468 (by decide +kernel) rfl
theorem lj_X8_349 : Cond.constantLong RX8 349 3 ∈ zTbl := zmem 1481 (by decide +kernel) rfl
theorem q2_X8_isSheet : Cond.static yX8_isSheet ∈ zTbl := zmem 1479 (by decide +kernel) rfl
theorem q5_X8_isSheet : Cond.code yX8_isSheet cX8_isSheet 1 (some .boolean) ∈ zTbl := zmem 1480 (by decide +kernel) rfl
theorem qd_X8_isSheet : yX8_isSheet.cls ≠ "java/lang/invoke/MethodHandle" ∧ yX8_isSheet.cls ≠ "java/lang/invoke/VarHandle" ∧ (parseMethodDescriptor yX8_isSheet.desc).map (fun d => d.parameters.length) = some 1 := by decide +kernel
theorem lm_X8_351 : Cond.methodLink RX8 351 yX8_isSheet ∈ zTbl := zmem 1478 (by decide +kernel) rfl
theorem lf_X8_31 : Cond.fieldLink RX8 31 RX8 (TX8 16).2.1 (TX8 16).2.2.1 ∈ zTbl := zmem 994 (by decide +kernel) rfl
theorem lf_X8_34 : Cond.fieldLink RX8 34 RX8 (TX8 17).2.1 (TX8 17).2.2.1 ∈ zTbl := zmem 995 (by decide +kernel) rfl
theorem lf_X8_37 : Cond.fieldLink RX8 37 RX8 (TX8 18).2.1 (TX8 18).2.2.1 ∈ zTbl := zmem 996 (by decide +kernel) rfl
theorem q2_X8_lacksOf : Cond.instanceMethod yX8_lacksOf ∈ zTbl := zmem 1488 (by decide +kernel) rfl
theorem q3_X8_lacksOf : Cond.selects RX8 yX8_lacksOf yX8_lacksOf ∈ zTbl := zmem 81 (by decide +kernel) rfl
theorem q5_X8_lacksOf : Cond.code yX8_lacksOf cX8_lacksOf 2 (some .int) ∈ zTbl := zmem 1489 (by decide +kernel) rfl
theorem qd_X8_lacksOf : yX8_lacksOf.cls ≠ "java/lang/invoke/MethodHandle" ∧ yX8_lacksOf.cls ≠ "java/lang/invoke/VarHandle" ∧ (parseMethodDescriptor yX8_lacksOf.desc).map (fun d => d.parameters.length) = some 1 := by decide +kernel
theorem lm_X8_354 : Cond.methodLink RX8 354 yX8_lacksOf ∈ zTbl := zmem 1486 (by decide +kernel) rfl
theorem q2_X8_cut : Cond.static yX8_cut ∈ zTbl := zmem 1491 (by decide +kernel) rfl
theorem q5_X8_cut : Cond.code yX8_cut cX8_cut 2 (some .int) ∈ zTbl := zmem 1492 (by decide +kernel) rfl
theorem qd_X8_cut : yX8_cut.cls ≠ "java/lang/invoke/MethodHandle" ∧ yX8_cut.cls ≠ "java/lang/invoke/VarHandle" ∧ (parseMethodDescriptor yX8_cut.desc).map (fun d => d.parameters.length) = some 2 := by decide +kernel
theorem lm_X8_357 : Cond.methodLink RX8 357 yX8_cut ∈ zTbl := zmem 1490 (by decide +kernel) rfl
theorem lf_X8_40 : Cond.fieldLink RX8 40 RX8 (TX8 19).2.1 (TX8 19).2.2.1 ∈ zTbl := zmem 997 (by decide +kernel) rfl
theorem q2_X8_isStep : Cond.instanceMethod yX8_isStep ∈ zTbl := zmem 1507 (by decide +kernel) rfl
theorem q3_X8_isStep : Cond.selects RX8 yX8_isStep yX8_isStep ∈ zTbl := zmem 82 (by decide +kernel) rfl
theorem q5_X8_isStep : Cond.code yX8_isStep cX8_isStep 8 (some .boolean) ∈ zTbl := zmem 1508 (by decide +kernel) rfl
theorem qd_X8_isStep : yX8_isStep.cls ≠ "java/lang/invoke/MethodHandle" ∧ yX8_isStep.cls ≠ "java/lang/invoke/VarHandle" ∧ (parseMethodDescriptor yX8_isStep.desc).map (fun d => d.parameters.length) = some 2 := by decide +kernel
theorem lm_X8_360 : Cond.methodLink RX8 360 yX8_isStep ∈ zTbl := zmem 1505 (by decide +kernel) rfl
theorem lf_X8_13 : Cond.fieldLink RX8 13 RX8 (TX8 1).2.1 (TX8 1).2.2.1 ∈ zTbl := zmem 979 (by decide +kernel) rfl
theorem lf_X8_363 : Cond.fieldLink RX8 363 RX8 (TX8 3).2.1 (TX8 3).2.2.1 ∈ zTbl := zmem 981 (by decide +kernel) rfl
theorem q2_X8_holding : Cond.instanceMethod yX8_holding ∈ zTbl := zmem 1527 (by decide +kernel) rfl
theorem q3_X8_holding : Cond.selects RX8 yX8_holding yX8_holding ∈ zTbl := zmem 83 (by decide +kernel) rfl
theorem q5_X8_holding : Cond.code yX8_holding cX8_holding 3 (some .int) ∈ zTbl := zmem 1528 (by decide +kernel) rfl
theorem qd_X8_holding : yX8_holding.cls ≠ "java/lang/invoke/MethodHandle" ∧ yX8_holding.cls ≠ "java/lang/invoke/VarHandle" ∧ (parseMethodDescriptor yX8_holding.desc).map (fun d => d.parameters.length) = some 0 := by decide +kernel
theorem lm_X8_366 : Cond.methodLink RX8 366 yX8_holding ∈ zTbl := zmem 1525 (by decide +kernel) rfl
