theorem lm_L_13 : Cond.methodLink RL 13 yX7_door ∈ zTbl := zmem 312 (by decide +kernel) rfl
theorem q2_X7_door : Cond.instanceMethod yX7_door ∈ zTbl := zmem 313 (by decide +kernel) rfl
theorem q3_X7_door : Cond.selects RX7 yX7_door yX7_door ∈ zTbl := zmem 314 (by decide +kernel) rfl
theorem q5_X7_door : Cond.code yX7_door cX7_door 5 (some .int) ∈ zTbl := zmem 315 (by decide +kernel) rfl
theorem qd_X7_door : yX7_door.cls ≠ "java/lang/invoke/MethodHandle" ∧ yX7_door.cls ≠ "java/lang/invoke/VarHandle" ∧ (parseMethodDescriptor yX7_door.desc).map (fun d => d.parameters.length) = some 3 := by decide +kernel
theorem lm_L_17 : Cond.methodLink RL 17 yX8_door ∈ zTbl := zmem 1039 (by decide +kernel) rfl
theorem q2_X8_door : Cond.instanceMethod yX8_door ∈ zTbl := zmem 1040 (by decide +kernel) rfl
theorem q3_X8_door : Cond.selects RX8 yX8_door yX8_door ∈ zTbl := zmem 1041 (by decide +kernel) rfl
theorem q5_X8_door : Cond.code yX8_door cX8_door 5 (some .int) ∈ zTbl := zmem 1042 (by decide +kernel) rfl
theorem qd_X8_door : yX8_door.cls ≠ "java/lang/invoke/MethodHandle" ∧ yX8_door.cls ≠ "java/lang/invoke/VarHandle" ∧ (parseMethodDescriptor yX8_door.desc).map (fun d => d.parameters.length) = some 3 := by decide +kernel
theorem lm_L_18 : Cond.methodLink RL 18 yX7_rule ∈ zTbl := zmem 335 (by decide +kernel) rfl
theorem q2_X7_rule : Cond.instanceMethod yX7_rule ∈ zTbl := zmem 336 (by decide +kernel) rfl
theorem q3_X7_rule : Cond.selects RX7 yX7_rule yX7_rule ∈ zTbl := zmem 337 (by decide +kernel) rfl
theorem q5_X7_rule : Cond.code yX7_rule cX7_rule 3 (some .int) ∈ zTbl := zmem 338 (by decide +kernel) rfl
theorem qd_X7_rule : yX7_rule.cls ≠ "java/lang/invoke/MethodHandle" ∧ yX7_rule.cls ≠ "java/lang/invoke/VarHandle" ∧ (parseMethodDescriptor yX7_rule.desc).map (fun d => d.parameters.length) = some 2 := by decide +kernel
theorem lm_L_22 : Cond.methodLink RL 22 yX8_rule ∈ zTbl := zmem 1059 (by decide +kernel) rfl
theorem q2_X8_rule : Cond.instanceMethod yX8_rule ∈ zTbl := zmem 1060 (by decide +kernel) rfl
theorem q3_X8_rule : Cond.selects RX8 yX8_rule yX8_rule ∈ zTbl := zmem 1061 (by decide +kernel) rfl
theorem q5_X8_rule : Cond.code yX8_rule cX8_rule 5 (some .int) ∈ zTbl := zmem 1062 (by decide +kernel) rfl
theorem qd_X8_rule : yX8_rule.cls ≠ "java/lang/invoke/MethodHandle" ∧ yX8_rule.cls ≠ "java/lang/invoke/VarHandle" ∧ (parseMethodDescriptor yX8_rule.desc).map (fun d => d.parameters.length) = some 2 := by decide +kernel
theorem lm_L_23 : Cond.methodLink RL 23 yX7_thing ∈ zTbl := zmem 343 (by decide +kernel) rfl
theorem q2_X7_thing : Cond.instanceMethod yX7_thing ∈ zTbl := zmem 344 (by decide +kernel) rfl
theorem q3_X7_thing : Cond.selects RX7 yX7_thing yX7_thing ∈ zTbl := zmem 345 (by decide +kernel) rfl
theorem q5_X7_thing : Cond.code yX7_thing cX7_thing 3 (some .int) ∈ zTbl := zmem 346 (by decide +kernel) rfl
theorem qd_X7_thing : yX7_thing.cls ≠ "java/lang/invoke/MethodHandle" ∧ yX7_thing.cls ≠ "java/lang/invoke/VarHandle" ∧ (parseMethodDescriptor yX7_thing.desc).map (fun d => d.parameters.length) = some 2 := by decide +kernel
theorem lm_L_26 : Cond.methodLink RL 26 yX8_thing ∈ zTbl := zmem 1064 (by decide +kernel) rfl
theorem q2_X8_thing : Cond.instanceMethod yX8_thing ∈ zTbl := zmem 1065 (by decide +kernel) rfl
theorem q3_X8_thing : Cond.selects RX8 yX8_thing yX8_thing ∈ zTbl := zmem 1066 (by decide +kernel) rfl
theorem q5_X8_thing : Cond.code yX8_thing cX8_thing 3 (some .int) ∈ zTbl := zmem 1067 (by decide +kernel) rfl
theorem qd_X8_thing : yX8_thing.cls ≠ "java/lang/invoke/MethodHandle" ∧ yX8_thing.cls ≠ "java/lang/invoke/VarHandle" ∧ (parseMethodDescriptor yX8_thing.desc).map (fun d => d.parameters.length) = some 2 := by decide +kernel
theorem lm_L_27 : Cond.methodLink RL 27 yX7_of ∈ zTbl := zmem 356 (by decide +kernel) rfl
theorem q2_X7_of : Cond.instanceMethod yX7_of ∈ zTbl := zmem 357 (by decide +kernel) rfl
theorem q3_X7_of : Cond.selects RX7 yX7_of yX7_of ∈ zTbl := zmem 358 (by decide +kernel) rfl
theorem q5_X7_of : Cond.code yX7_of cX7_of 3 (some .int) ∈ zTbl := zmem 359 (by decide +kernel) rfl
theorem qd_X7_of : yX7_of.cls ≠ "java/lang/invoke/MethodHandle" ∧ yX7_of.cls ≠ "java/lang/invoke/VarHandle" ∧ (parseMethodDescriptor yX7_of.desc).map (fun d => d.parameters.length) = some 2 := by decide +kernel
theorem lm_L_30 : Cond.methodLink RL 30 yX8_of ∈ zTbl := zmem 1076 (by decide +kernel) rfl
theorem q2_X8_of : Cond.instanceMethod yX8_of ∈ zTbl := zmem 1077 (by decide +kernel) rfl
theorem q3_X8_of : Cond.selects RX8 yX8_of yX8_of ∈ zTbl := zmem 1078 (by decide +kernel) rfl
theorem q5_X8_of : Cond.code yX8_of cX8_of 3 (some .int) ∈ zTbl := zmem 1079 (by decide +kernel) rfl
theorem qd_X8_of : yX8_of.cls ≠ "java/lang/invoke/MethodHandle" ∧ yX8_of.cls ≠ "java/lang/invoke/VarHandle" ∧ (parseMethodDescriptor yX8_of.desc).map (fun d => d.parameters.length) = some 2 := by decide +kernel
theorem lm_L_31 : Cond.methodLink RL 31 yX7_change ∈ zTbl := zmem 375 (by decide +kernel) rfl
theorem q2_X7_change : Cond.instanceMethod yX7_change ∈ zTbl := zmem 376 (by decide +kernel) rfl
theorem q3_X7_change : Cond.selects RX7 yX7_change yX7_change ∈ zTbl := zmem 377 (by decide +kernel) rfl
theorem q5_X7_change : Cond.code yX7_change cX7_change 5 (some .int) ∈ zTbl := zmem 378 (by decide +kernel) rfl
theorem qd_X7_change : yX7_change.cls ≠ "java/lang/invoke/MethodHandle" ∧ yX7_change.cls ≠ "java/lang/invoke/VarHandle" ∧ (parseMethodDescriptor yX7_change.desc).map (fun d => d.parameters.length) = some 3 := by decide +kernel
theorem lm_L_34 : Cond.methodLink RL 34 yX8_change ∈ zTbl := zmem 1091 (by decide +kernel) rfl
theorem q2_X8_change : Cond.instanceMethod yX8_change ∈ zTbl := zmem 1092 (by decide +kernel) rfl
theorem q3_X8_change : Cond.selects RX8 yX8_change yX8_change ∈ zTbl := zmem 1093 (by decide +kernel) rfl
theorem q5_X8_change : Cond.code yX8_change cX8_change 6 (some .int) ∈ zTbl := zmem 1094 (by decide +kernel) rfl
theorem qd_X8_change : yX8_change.cls ≠ "java/lang/invoke/MethodHandle" ∧ yX8_change.cls ≠ "java/lang/invoke/VarHandle" ∧ (parseMethodDescriptor yX8_change.desc).map (fun d => d.parameters.length) = some 3 := by decide +kernel
theorem lm_L_35 : Cond.methodLink RL 35 yX7_one ∈ zTbl := zmem 386 (by decide +kernel) rfl
theorem q2_X7_one : Cond.instanceMethod yX7_one ∈ zTbl := zmem 387 (by decide +kernel) rfl
theorem q3_X7_one : Cond.selects RX7 yX7_one yX7_one ∈ zTbl := zmem 388 (by decide +kernel) rfl
theorem q5_X7_one : Cond.code yX7_one cX7_one 2 (some .int) ∈ zTbl := zmem 389 (by decide +kernel) rfl
theorem qd_X7_one : yX7_one.cls ≠ "java/lang/invoke/MethodHandle" ∧ yX7_one.cls ≠ "java/lang/invoke/VarHandle" ∧ (parseMethodDescriptor yX7_one.desc).map (fun d => d.parameters.length) = some 1 := by decide +kernel
theorem lm_L_39 : Cond.methodLink RL 39 yX8_one ∈ zTbl := zmem 1096 (by decide +kernel) rfl
theorem q2_X8_one : Cond.instanceMethod yX8_one ∈ zTbl := zmem 1097 (by decide +kernel) rfl
theorem q3_X8_one : Cond.selects RX8 yX8_one yX8_one ∈ zTbl := zmem 1098 (by decide +kernel) rfl
theorem q5_X8_one : Cond.code yX8_one cX8_one 2 (some .int) ∈ zTbl := zmem 1099 (by decide +kernel) rfl
theorem qd_X8_one : yX8_one.cls ≠ "java/lang/invoke/MethodHandle" ∧ yX8_one.cls ≠ "java/lang/invoke/VarHandle" ∧ (parseMethodDescriptor yX8_one.desc).map (fun d => d.parameters.length) = some 1 := by decide +kernel
theorem lm_L_40 : Cond.methodLink RL 40 yX7_person ∈ zTbl := zmem 397 (by decide +kernel) rfl
theorem q2_X7_person : Cond.instanceMethod yX7_person ∈ zTbl := zmem 398 (by decide +kernel) rfl
theorem q3_X7_person : Cond.selects RX7 yX7_person yX7_person ∈ zTbl := zmem 399 (by decide +kernel) rfl
theorem q5_X7_person : Cond.code yX7_person cX7_person 5 (some .int) ∈ zTbl := zmem 400 (by decide +kernel) rfl
theorem qd_X7_person : yX7_person.cls ≠ "java/lang/invoke/MethodHandle" ∧ yX7_person.cls ≠ "java/lang/invoke/VarHandle" ∧ (parseMethodDescriptor yX7_person.desc).map (fun d => d.parameters.length) = some 3 := by decide +kernel
theorem lm_L_43 : Cond.methodLink RL 43 yX8_person ∈ zTbl := zmem 1108 (by decide +kernel) rfl
theorem q2_X8_person : Cond.instanceMethod yX8_person ∈ zTbl := zmem 1109 (by decide +kernel) rfl
theorem q3_X8_person : Cond.selects RX8 yX8_person yX8_person ∈ zTbl := zmem 1110 (by decide +kernel) rfl
theorem q5_X8_person : Cond.code yX8_person cX8_person 6 (some .int) ∈ zTbl := zmem 1111 (by decide +kernel) rfl
theorem qd_X8_person : yX8_person.cls ≠ "java/lang/invoke/MethodHandle" ∧ yX8_person.cls ≠ "java/lang/invoke/VarHandle" ∧ (parseMethodDescriptor yX8_person.desc).map (fun d => d.parameters.length) = some 3 := by decide +kernel
theorem lm_L_44 : Cond.methodLink RL 44 yX7_tell ∈ zTbl := zmem 413 (by decide +kernel) rfl
theorem q2_X7_tell : Cond.instanceMethod yX7_tell ∈ zTbl := zmem 414 (by decide +kernel) rfl
theorem q3_X7_tell : Cond.selects RX7 yX7_tell yX7_tell ∈ zTbl := zmem 415 (by decide +kernel) rfl
theorem q5_X7_tell : Cond.code yX7_tell cX7_tell 3 (some .int) ∈ zTbl := zmem 416 (by decide +kernel) rfl
theorem qd_X7_tell : yX7_tell.cls ≠ "java/lang/invoke/MethodHandle" ∧ yX7_tell.cls ≠ "java/lang/invoke/VarHandle" ∧ (parseMethodDescriptor yX7_tell.desc).map (fun d => d.parameters.length) = some 2 := by decide +kernel
theorem lm_L_47 : Cond.methodLink RL 47 yX8_tell ∈ zTbl := zmem 1116 (by decide +kernel) rfl
theorem q2_X8_tell : Cond.instanceMethod yX8_tell ∈ zTbl := zmem 1117 (by decide +kernel) rfl
theorem q3_X8_tell : Cond.selects RX8 yX8_tell yX8_tell ∈ zTbl := zmem 1118 (by decide +kernel) rfl
theorem q5_X8_tell : Cond.code yX8_tell cX8_tell 3 (some .int) ∈ zTbl := zmem 1119 (by decide +kernel) rfl
theorem qd_X8_tell : yX8_tell.cls ≠ "java/lang/invoke/MethodHandle" ∧ yX8_tell.cls ≠ "java/lang/invoke/VarHandle" ∧ (parseMethodDescriptor yX8_tell.desc).map (fun d => d.parameters.length) = some 2 := by decide +kernel
theorem lm_L_48 : Cond.methodLink RL 48 yX7_lie ∈ zTbl := zmem 417 (by decide +kernel) rfl
theorem q2_X7_lie : Cond.instanceMethod yX7_lie ∈ zTbl := zmem 418 (by decide +kernel) rfl
theorem q3_X7_lie : Cond.selects RX7 yX7_lie yX7_lie ∈ zTbl := zmem 419 (by decide +kernel) rfl
theorem q5_X7_lie : Cond.code yX7_lie cX7_lie 2 (some .int) ∈ zTbl := zmem 420 (by decide +kernel) rfl
theorem qd_X7_lie : yX7_lie.cls ≠ "java/lang/invoke/MethodHandle" ∧ yX7_lie.cls ≠ "java/lang/invoke/VarHandle" ∧ (parseMethodDescriptor yX7_lie.desc).map (fun d => d.parameters.length) = some 1 := by decide +kernel
theorem lm_L_51 : Cond.methodLink RL 51 yX8_lie ∈ zTbl := zmem 1120 (by decide +kernel) rfl
theorem q2_X8_lie : Cond.instanceMethod yX8_lie ∈ zTbl := zmem 1121 (by decide +kernel) rfl
theorem q3_X8_lie : Cond.selects RX8 yX8_lie yX8_lie ∈ zTbl := zmem 1122 (by decide +kernel) rfl
theorem q5_X8_lie : Cond.code yX8_lie cX8_lie 4 (some .int) ∈ zTbl := zmem 1123 (by decide +kernel) rfl
theorem qd_X8_lie : yX8_lie.cls ≠ "java/lang/invoke/MethodHandle" ∧ yX8_lie.cls ≠ "java/lang/invoke/VarHandle" ∧ (parseMethodDescriptor yX8_lie.desc).map (fun d => d.parameters.length) = some 1 := by decide +kernel
theorem lm_L_52 : Cond.methodLink RL 52 yX7_walk ∈ zTbl := zmem 425 (by decide +kernel) rfl
theorem q2_X7_walk : Cond.instanceMethod yX7_walk ∈ zTbl := zmem 426 (by decide +kernel) rfl
theorem q3_X7_walk : Cond.selects RX7 yX7_walk yX7_walk ∈ zTbl := zmem 427 (by decide +kernel) rfl
theorem q5_X7_walk : Cond.code yX7_walk cX7_walk 3 (some .int) ∈ zTbl := zmem 428 (by decide +kernel) rfl
theorem qd_X7_walk : yX7_walk.cls ≠ "java/lang/invoke/MethodHandle" ∧ yX7_walk.cls ≠ "java/lang/invoke/VarHandle" ∧ (parseMethodDescriptor yX7_walk.desc).map (fun d => d.parameters.length) = some 2 := by decide +kernel
theorem lm_L_55 : Cond.methodLink RL 55 yX8_walk ∈ zTbl := zmem 1124 (by decide +kernel) rfl
theorem q2_X8_walk : Cond.instanceMethod yX8_walk ∈ zTbl := zmem 1125 (by decide +kernel) rfl
theorem q3_X8_walk : Cond.selects RX8 yX8_walk yX8_walk ∈ zTbl := zmem 1126 (by decide +kernel) rfl
theorem q5_X8_walk : Cond.code yX8_walk cX8_walk 3 (some .int) ∈ zTbl := zmem 1127 (by decide +kernel) rfl
theorem qd_X8_walk : yX8_walk.cls ≠ "java/lang/invoke/MethodHandle" ∧ yX8_walk.cls ≠ "java/lang/invoke/VarHandle" ∧ (parseMethodDescriptor yX8_walk.desc).map (fun d => d.parameters.length) = some 2 := by decide +kernel
theorem lm_L_56 : Cond.methodLink RL 56 yX7_in ∈ zTbl := zmem 442 (by decide +kernel) rfl
theorem q2_X7_in : Cond.instanceMethod yX7_in ∈ zTbl := zmem 443 (by decide +kernel) rfl
theorem q3_X7_in : Cond.selects RX7 yX7_in yX7_in ∈ zTbl := zmem 444 (by decide +kernel) rfl
theorem q5_X7_in : Cond.code yX7_in cX7_in 2 (some .int) ∈ zTbl := zmem 445 (by decide +kernel) rfl
theorem qd_X7_in : yX7_in.cls ≠ "java/lang/invoke/MethodHandle" ∧ yX7_in.cls ≠ "java/lang/invoke/VarHandle" ∧ (parseMethodDescriptor yX7_in.desc).map (fun d => d.parameters.length) = some 1 := by decide +kernel
theorem lm_L_59 : Cond.methodLink RL 59 yX8_in ∈ zTbl := zmem 1144 (by decide +kernel) rfl
theorem q2_X8_in : Cond.instanceMethod yX8_in ∈ zTbl := zmem 1145 (by decide +kernel) rfl
theorem q3_X8_in : Cond.selects RX8 yX8_in yX8_in ∈ zTbl := zmem 1146 (by decide +kernel) rfl
theorem q5_X8_in : Cond.code yX8_in cX8_in 2 (some .int) ∈ zTbl := zmem 1147 (by decide +kernel) rfl
theorem qd_X8_in : yX8_in.cls ≠ "java/lang/invoke/MethodHandle" ∧ yX8_in.cls ≠ "java/lang/invoke/VarHandle" ∧ (parseMethodDescriptor yX8_in.desc).map (fun d => d.parameters.length) = some 1 := by decide +kernel
theorem lm_L_60 : Cond.methodLink RL 60 yX7_out ∈ zTbl := zmem 454 (by decide +kernel) rfl
theorem q2_X7_out : Cond.instanceMethod yX7_out ∈ zTbl := zmem 455 (by decide +kernel) rfl
theorem q3_X7_out : Cond.selects RX7 yX7_out yX7_out ∈ zTbl := zmem 456 (by decide +kernel) rfl
theorem q5_X7_out : Cond.code yX7_out cX7_out 2 (some .int) ∈ zTbl := zmem 457 (by decide +kernel) rfl
theorem qd_X7_out : yX7_out.cls ≠ "java/lang/invoke/MethodHandle" ∧ yX7_out.cls ≠ "java/lang/invoke/VarHandle" ∧ (parseMethodDescriptor yX7_out.desc).map (fun d => d.parameters.length) = some 1 := by decide +kernel
theorem lm_L_63 : Cond.methodLink RL 63 yX8_out ∈ zTbl := zmem 1152 (by decide +kernel) rfl
theorem q2_X8_out : Cond.instanceMethod yX8_out ∈ zTbl := zmem 1153 (by decide +kernel) rfl
theorem q3_X8_out : Cond.selects RX8 yX8_out yX8_out ∈ zTbl := zmem 1154 (by decide +kernel) rfl
theorem q5_X8_out : Cond.code yX8_out cX8_out 2 (some .int) ∈ zTbl := zmem 1155 (by decide +kernel) rfl
theorem qd_X8_out : yX8_out.cls ≠ "java/lang/invoke/MethodHandle" ∧ yX8_out.cls ≠ "java/lang/invoke/VarHandle" ∧ (parseMethodDescriptor yX8_out.desc).map (fun d => d.parameters.length) = some 1 := by decide +kernel
theorem lm_L_64 : Cond.methodLink RL 64 yX7_carry ∈ zTbl := zmem 462 (by decide +kernel) rfl
theorem q2_X7_carry : Cond.instanceMethod yX7_carry ∈ zTbl := zmem 463 (by decide +kernel) rfl
theorem q3_X7_carry : Cond.selects RX7 yX7_carry yX7_carry ∈ zTbl := zmem 464 (by decide +kernel) rfl
theorem q5_X7_carry : Cond.code yX7_carry cX7_carry 4 (some .int) ∈ zTbl := zmem 465 (by decide +kernel) rfl
theorem qd_X7_carry : yX7_carry.cls ≠ "java/lang/invoke/MethodHandle" ∧ yX7_carry.cls ≠ "java/lang/invoke/VarHandle" ∧ (parseMethodDescriptor yX7_carry.desc).map (fun d => d.parameters.length) = some 3 := by decide +kernel
theorem lm_L_67 : Cond.methodLink RL 67 yX8_carry ∈ zTbl := zmem 1156 (by decide +kernel) rfl
theorem q2_X8_carry : Cond.instanceMethod yX8_carry ∈ zTbl := zmem 1157 (by decide +kernel) rfl
theorem q3_X8_carry : Cond.selects RX8 yX8_carry yX8_carry ∈ zTbl := zmem 1158 (by decide +kernel) rfl
theorem q5_X8_carry : Cond.code yX8_carry cX8_carry 5 (some .int) ∈ zTbl := zmem 1159 (by decide +kernel) rfl
theorem qd_X8_carry : yX8_carry.cls ≠ "java/lang/invoke/MethodHandle" ∧ yX8_carry.cls ≠ "java/lang/invoke/VarHandle" ∧ (parseMethodDescriptor yX8_carry.desc).map (fun d => d.parameters.length) = some 3 := by decide +kernel
theorem lm_L_68 : Cond.methodLink RL 68 yX7_reach ∈ zTbl := zmem 488 (by decide +kernel) rfl
theorem q2_X7_reach : Cond.instanceMethod yX7_reach ∈ zTbl := zmem 489 (by decide +kernel) rfl
theorem q3_X7_reach : Cond.selects RX7 yX7_reach yX7_reach ∈ zTbl := zmem 490 (by decide +kernel) rfl
theorem q5_X7_reach : Cond.code yX7_reach cX7_reach 4 (some .int) ∈ zTbl := zmem 491 (by decide +kernel) rfl
theorem qd_X7_reach : yX7_reach.cls ≠ "java/lang/invoke/MethodHandle" ∧ yX7_reach.cls ≠ "java/lang/invoke/VarHandle" ∧ (parseMethodDescriptor yX7_reach.desc).map (fun d => d.parameters.length) = some 3 := by decide +kernel
theorem lm_L_71 : Cond.methodLink RL 71 yX8_reach ∈ zTbl := zmem 1173 (by decide +kernel) rfl
theorem q2_X8_reach : Cond.instanceMethod yX8_reach ∈ zTbl := zmem 1174 (by decide +kernel) rfl
theorem q3_X8_reach : Cond.selects RX8 yX8_reach yX8_reach ∈ zTbl := zmem 1175 (by decide +kernel) rfl
theorem q5_X8_reach : Cond.code yX8_reach cX8_reach 4 (some .int) ∈ zTbl := zmem 1176 (by decide +kernel) rfl
theorem qd_X8_reach : yX8_reach.cls ≠ "java/lang/invoke/MethodHandle" ∧ yX8_reach.cls ≠ "java/lang/invoke/VarHandle" ∧ (parseMethodDescriptor yX8_reach.desc).map (fun d => d.parameters.length) = some 3 := by decide +kernel
theorem lm_L_72 : Cond.methodLink RL 72 yX7_lift ∈ zTbl := zmem 500 (by decide +kernel) rfl
theorem q2_X7_lift : Cond.instanceMethod yX7_lift ∈ zTbl := zmem 501 (by decide +kernel) rfl
theorem q3_X7_lift : Cond.selects RX7 yX7_lift yX7_lift ∈ zTbl := zmem 502 (by decide +kernel) rfl
theorem q5_X7_lift : Cond.code yX7_lift cX7_lift 4 (some .int) ∈ zTbl := zmem 503 (by decide +kernel) rfl
theorem qd_X7_lift : yX7_lift.cls ≠ "java/lang/invoke/MethodHandle" ∧ yX7_lift.cls ≠ "java/lang/invoke/VarHandle" ∧ (parseMethodDescriptor yX7_lift.desc).map (fun d => d.parameters.length) = some 3 := by decide +kernel
theorem lm_L_75 : Cond.methodLink RL 75 yX8_lift ∈ zTbl := zmem 1181 (by decide +kernel) rfl
theorem q2_X8_lift : Cond.instanceMethod yX8_lift ∈ zTbl := zmem 1182 (by decide +kernel) rfl
theorem q3_X8_lift : Cond.selects RX8 yX8_lift yX8_lift ∈ zTbl := zmem 1183 (by decide +kernel) rfl
theorem q5_X8_lift : Cond.code yX8_lift cX8_lift 4 (some .int) ∈ zTbl := zmem 1184 (by decide +kernel) rfl
theorem qd_X8_lift : yX8_lift.cls ≠ "java/lang/invoke/MethodHandle" ∧ yX8_lift.cls ≠ "java/lang/invoke/VarHandle" ∧ (parseMethodDescriptor yX8_lift.desc).map (fun d => d.parameters.length) = some 3 := by decide +kernel
theorem lm_L_76 : Cond.methodLink RL 76 yX7_now ∈ zTbl := zmem 508 (by decide +kernel) rfl
theorem q2_X7_now : Cond.instanceMethod yX7_now ∈ zTbl := zmem 509 (by decide +kernel) rfl
theorem q3_X7_now : Cond.selects RX7 yX7_now yX7_now ∈ zTbl := zmem 510 (by decide +kernel) rfl
theorem q5_X7_now : Cond.code yX7_now cX7_now 2 (some .int) ∈ zTbl := zmem 511 (by decide +kernel) rfl
theorem qd_X7_now : yX7_now.cls ≠ "java/lang/invoke/MethodHandle" ∧ yX7_now.cls ≠ "java/lang/invoke/VarHandle" ∧ (parseMethodDescriptor yX7_now.desc).map (fun d => d.parameters.length) = some 1 := by decide +kernel
theorem lm_L_79 : Cond.methodLink RL 79 yX8_now ∈ zTbl := zmem 1185 (by decide +kernel) rfl
theorem q2_X8_now : Cond.instanceMethod yX8_now ∈ zTbl := zmem 1186 (by decide +kernel) rfl
theorem q3_X8_now : Cond.selects RX8 yX8_now yX8_now ∈ zTbl := zmem 1187 (by decide +kernel) rfl
theorem q5_X8_now : Cond.code yX8_now cX8_now 2 (some .int) ∈ zTbl := zmem 1188 (by decide +kernel) rfl
theorem qd_X8_now : yX8_now.cls ≠ "java/lang/invoke/MethodHandle" ∧ yX8_now.cls ≠ "java/lang/invoke/VarHandle" ∧ (parseMethodDescriptor yX8_now.desc).map (fun d => d.parameters.length) = some 1 := by decide +kernel
theorem lm_L_80 : Cond.methodLink RL 80 yX7_book ∈ zTbl := zmem 512 (by decide +kernel) rfl
theorem q2_X7_book : Cond.instanceMethod yX7_book ∈ zTbl := zmem 513 (by decide +kernel) rfl
theorem q3_X7_book : Cond.selects RX7 yX7_book yX7_book ∈ zTbl := zmem 514 (by decide +kernel) rfl
theorem q5_X7_book : Cond.code yX7_book cX7_book 3 (some .int) ∈ zTbl := zmem 515 (by decide +kernel) rfl
theorem qd_X7_book : yX7_book.cls ≠ "java/lang/invoke/MethodHandle" ∧ yX7_book.cls ≠ "java/lang/invoke/VarHandle" ∧ (parseMethodDescriptor yX7_book.desc).map (fun d => d.parameters.length) = some 2 := by decide +kernel
theorem lm_L_83 : Cond.methodLink RL 83 yX8_book ∈ zTbl := zmem 1189 (by decide +kernel) rfl
theorem q2_X8_book : Cond.instanceMethod yX8_book ∈ zTbl := zmem 1190 (by decide +kernel) rfl
theorem q3_X8_book : Cond.selects RX8 yX8_book yX8_book ∈ zTbl := zmem 1191 (by decide +kernel) rfl
theorem q5_X8_book : Cond.code yX8_book cX8_book 3 (some .int) ∈ zTbl := zmem 1192 (by decide +kernel) rfl
theorem qd_X8_book : yX8_book.cls ≠ "java/lang/invoke/MethodHandle" ∧ yX8_book.cls ≠ "java/lang/invoke/VarHandle" ∧ (parseMethodDescriptor yX8_book.desc).map (fun d => d.parameters.length) = some 2 := by decide +kernel
theorem lm_L_84 : Cond.methodLink RL 84 yX7_ways ∈ zTbl := zmem 517 (by decide +kernel) rfl
theorem q2_X7_ways : Cond.instanceMethod yX7_ways ∈ zTbl := zmem 518 (by decide +kernel) rfl
theorem q3_X7_ways : Cond.selects RX7 yX7_ways yX7_ways ∈ zTbl := zmem 519 (by decide +kernel) rfl
theorem q5_X7_ways : Cond.code yX7_ways cX7_ways 2 (some .long) ∈ zTbl := zmem 520 (by decide +kernel) rfl
theorem qd_X7_ways : yX7_ways.cls ≠ "java/lang/invoke/MethodHandle" ∧ yX7_ways.cls ≠ "java/lang/invoke/VarHandle" ∧ (parseMethodDescriptor yX7_ways.desc).map (fun d => d.parameters.length) = some 1 := by decide +kernel
theorem lm_L_88 : Cond.methodLink RL 88 yX8_ways ∈ zTbl := zmem 1194 (by decide +kernel) rfl
theorem q2_X8_ways : Cond.instanceMethod yX8_ways ∈ zTbl := zmem 1195 (by decide +kernel) rfl
theorem q3_X8_ways : Cond.selects RX8 yX8_ways yX8_ways ∈ zTbl := zmem 1196 (by decide +kernel) rfl
theorem q5_X8_ways : Cond.code yX8_ways cX8_ways 5 (some .long) ∈ zTbl := zmem 1197 (by decide +kernel) rfl
theorem qd_X8_ways : yX8_ways.cls ≠ "java/lang/invoke/MethodHandle" ∧ yX8_ways.cls ≠ "java/lang/invoke/VarHandle" ∧ (parseMethodDescriptor yX8_ways.desc).map (fun d => d.parameters.length) = some 1 := by decide +kernel
theorem lm_L_89 : Cond.methodLink RL 89 yX7_far ∈ zTbl := zmem 532 (by decide +kernel) rfl
theorem q2_X7_far : Cond.instanceMethod yX7_far ∈ zTbl := zmem 533 (by decide +kernel) rfl
theorem q3_X7_far : Cond.selects RX7 yX7_far yX7_far ∈ zTbl := zmem 534 (by decide +kernel) rfl
theorem q5_X7_far : Cond.code yX7_far cX7_far 3 (some .int) ∈ zTbl := zmem 535 (by decide +kernel) rfl
theorem qd_X7_far : yX7_far.cls ≠ "java/lang/invoke/MethodHandle" ∧ yX7_far.cls ≠ "java/lang/invoke/VarHandle" ∧ (parseMethodDescriptor yX7_far.desc).map (fun d => d.parameters.length) = some 2 := by decide +kernel
theorem lm_L_92 : Cond.methodLink RL 92 yX8_far ∈ zTbl := zmem 1210 (by decide +kernel) rfl
theorem q2_X8_far : Cond.instanceMethod yX8_far ∈ zTbl := zmem 1211 (by decide +kernel) rfl
theorem q3_X8_far : Cond.selects RX8 yX8_far yX8_far ∈ zTbl := zmem 1212 (by decide +kernel) rfl
theorem q5_X8_far : Cond.code yX8_far cX8_far 3 (some .int) ∈ zTbl := zmem 1213 (by decide +kernel) rfl
theorem qd_X8_far : yX8_far.cls ≠ "java/lang/invoke/MethodHandle" ∧ yX8_far.cls ≠ "java/lang/invoke/VarHandle" ∧ (parseMethodDescriptor yX8_far.desc).map (fun d => d.parameters.length) = some 2 := by decide +kernel
theorem lm_L_93 : Cond.methodLink RL 93 yX7_task ∈ zTbl := zmem 544 (by decide +kernel) rfl
theorem q2_X7_task : Cond.instanceMethod yX7_task ∈ zTbl := zmem 545 (by decide +kernel) rfl
theorem q3_X7_task : Cond.selects RX7 yX7_task yX7_task ∈ zTbl := zmem 546 (by decide +kernel) rfl
theorem q5_X7_task : Cond.code yX7_task cX7_task 4 (some .int) ∈ zTbl := zmem 547 (by decide +kernel) rfl
theorem qd_X7_task : yX7_task.cls ≠ "java/lang/invoke/MethodHandle" ∧ yX7_task.cls ≠ "java/lang/invoke/VarHandle" ∧ (parseMethodDescriptor yX7_task.desc).map (fun d => d.parameters.length) = some 3 := by decide +kernel
theorem lm_L_96 : Cond.methodLink RL 96 yX8_task ∈ zTbl := zmem 1218 (by decide +kernel) rfl
theorem q2_X8_task : Cond.instanceMethod yX8_task ∈ zTbl := zmem 1219 (by decide +kernel) rfl
theorem q3_X8_task : Cond.selects RX8 yX8_task yX8_task ∈ zTbl := zmem 1220 (by decide +kernel) rfl
theorem q5_X8_task : Cond.code yX8_task cX8_task 4 (some .int) ∈ zTbl := zmem 1221 (by decide +kernel) rfl
theorem qd_X8_task : yX8_task.cls ≠ "java/lang/invoke/MethodHandle" ∧ yX8_task.cls ≠ "java/lang/invoke/VarHandle" ∧ (parseMethodDescriptor yX8_task.desc).map (fun d => d.parameters.length) = some 3 := by decide +kernel
theorem lm_L_97 : Cond.methodLink RL 97 yX7_who ∈ zTbl := zmem 579 (by decide +kernel) rfl
theorem q2_X7_who : Cond.instanceMethod yX7_who ∈ zTbl := zmem 580 (by decide +kernel) rfl
theorem q3_X7_who : Cond.selects RX7 yX7_who yX7_who ∈ zTbl := zmem 581 (by decide +kernel) rfl
theorem q5_X7_who : Cond.code yX7_who cX7_who 7 (some .int) ∈ zTbl := zmem 582 (by decide +kernel) rfl
theorem qd_X7_who : yX7_who.cls ≠ "java/lang/invoke/MethodHandle" ∧ yX7_who.cls ≠ "java/lang/invoke/VarHandle" ∧ (parseMethodDescriptor yX7_who.desc).map (fun d => d.parameters.length) = some 2 := by decide +kernel
theorem lm_L_100 : Cond.methodLink RL 100 yX8_who ∈ zTbl := zmem 1234 (by decide +kernel) rfl
theorem q2_X8_who : Cond.instanceMethod yX8_who ∈ zTbl := zmem 1235 (by decide +kernel) rfl
theorem q3_X8_who : Cond.selects RX8 yX8_who yX8_who ∈ zTbl := zmem 1236 (by decide +kernel) rfl
theorem q5_X8_who : Cond.code yX8_who cX8_who 4 (some .int) ∈ zTbl := zmem 1237 (by decide +kernel) rfl
theorem qd_X8_who : yX8_who.cls ≠ "java/lang/invoke/MethodHandle" ∧ yX8_who.cls ≠ "java/lang/invoke/VarHandle" ∧ (parseMethodDescriptor yX8_who.desc).map (fun d => d.parameters.length) = some 2 := by decide +kernel
theorem lm_L_101 : Cond.methodLink RL 101 yX7_can ∈ zTbl := zmem 586 (by decide +kernel) rfl
theorem q2_X7_can : Cond.instanceMethod yX7_can ∈ zTbl := zmem 587 (by decide +kernel) rfl
theorem q3_X7_can : Cond.selects RX7 yX7_can yX7_can ∈ zTbl := zmem 588 (by decide +kernel) rfl
theorem q5_X7_can : Cond.code yX7_can cX7_can 3 (some .int) ∈ zTbl := zmem 589 (by decide +kernel) rfl
theorem qd_X7_can : yX7_can.cls ≠ "java/lang/invoke/MethodHandle" ∧ yX7_can.cls ≠ "java/lang/invoke/VarHandle" ∧ (parseMethodDescriptor yX7_can.desc).map (fun d => d.parameters.length) = some 2 := by decide +kernel
theorem lm_L_104 : Cond.methodLink RL 104 yX8_can ∈ zTbl := zmem 1246 (by decide +kernel) rfl
theorem q2_X8_can : Cond.instanceMethod yX8_can ∈ zTbl := zmem 1247 (by decide +kernel) rfl
theorem q3_X8_can : Cond.selects RX8 yX8_can yX8_can ∈ zTbl := zmem 1248 (by decide +kernel) rfl
theorem q5_X8_can : Cond.code yX8_can cX8_can 3 (some .int) ∈ zTbl := zmem 1249 (by decide +kernel) rfl
theorem qd_X8_can : yX8_can.cls ≠ "java/lang/invoke/MethodHandle" ∧ yX8_can.cls ≠ "java/lang/invoke/VarHandle" ∧ (parseMethodDescriptor yX8_can.desc).map (fun d => d.parameters.length) = some 2 := by decide +kernel
theorem lm_L_105 : Cond.methodLink RL 105 yX7_above ∈ zTbl := zmem 594 (by decide +kernel) rfl
theorem q2_X7_above : Cond.instanceMethod yX7_above ∈ zTbl := zmem 595 (by decide +kernel) rfl
theorem q3_X7_above : Cond.selects RX7 yX7_above yX7_above ∈ zTbl := zmem 596 (by decide +kernel) rfl
theorem q5_X7_above : Cond.code yX7_above cX7_above 4 (some .int) ∈ zTbl := zmem 597 (by decide +kernel) rfl
theorem qd_X7_above : yX7_above.cls ≠ "java/lang/invoke/MethodHandle" ∧ yX7_above.cls ≠ "java/lang/invoke/VarHandle" ∧ (parseMethodDescriptor yX7_above.desc).map (fun d => d.parameters.length) = some 2 := by decide +kernel
theorem lm_L_108 : Cond.methodLink RL 108 yX8_above_ ∈ zTbl := zmem 1254 (by decide +kernel) rfl
theorem q2_X8_above_ : Cond.instanceMethod yX8_above_ ∈ zTbl := zmem 1255 (by decide +kernel) rfl
theorem q3_X8_above_ : Cond.selects RX8 yX8_above_ yX8_above_ ∈ zTbl := zmem 1256 (by decide +kernel) rfl
theorem q5_X8_above_ : Cond.code yX8_above_ cX8_above_ 3 (some .int) ∈ zTbl := zmem 1257 (by decide +kernel) rfl
theorem qd_X8_above_ : yX8_above_.cls ≠ "java/lang/invoke/MethodHandle" ∧ yX8_above_.cls ≠ "java/lang/invoke/VarHandle" ∧ (parseMethodDescriptor yX8_above_.desc).map (fun d => d.parameters.length) = some 2 := by decide +kernel
theorem lm_L_109 : Cond.methodLink RL 109 yX7_strong ∈ zTbl := zmem 598 (by decide +kernel) rfl
theorem q2_X7_strong : Cond.instanceMethod yX7_strong ∈ zTbl := zmem 599 (by decide +kernel) rfl
theorem q3_X7_strong : Cond.selects RX7 yX7_strong yX7_strong ∈ zTbl := zmem 600 (by decide +kernel) rfl
theorem q5_X7_strong : Cond.code yX7_strong cX7_strong 5 (some .int) ∈ zTbl := zmem 601 (by decide +kernel) rfl
theorem qd_X7_strong : yX7_strong.cls ≠ "java/lang/invoke/MethodHandle" ∧ yX7_strong.cls ≠ "java/lang/invoke/VarHandle" ∧ (parseMethodDescriptor yX7_strong.desc).map (fun d => d.parameters.length) = some 3 := by decide +kernel
theorem lm_L_112 : Cond.methodLink RL 112 yX8_strong ∈ zTbl := zmem 1258 (by decide +kernel) rfl
theorem q2_X8_strong : Cond.instanceMethod yX8_strong ∈ zTbl := zmem 1259 (by decide +kernel) rfl
theorem q3_X8_strong : Cond.selects RX8 yX8_strong yX8_strong ∈ zTbl := zmem 1260 (by decide +kernel) rfl
theorem q5_X8_strong : Cond.code yX8_strong cX8_strong 6 (some .int) ∈ zTbl := zmem 1261 (by decide +kernel) rfl
theorem qd_X8_strong : yX8_strong.cls ≠ "java/lang/invoke/MethodHandle" ∧ yX8_strong.cls ≠ "java/lang/invoke/VarHandle" ∧ (parseMethodDescriptor yX8_strong.desc).map (fun d => d.parameters.length) = some 3 := by decide +kernel
theorem lm_L_113 : Cond.methodLink RL 113 yX7_kindFor ∈ zTbl := zmem 610 (by decide +kernel) rfl
theorem q2_X7_kindFor : Cond.instanceMethod yX7_kindFor ∈ zTbl := zmem 611 (by decide +kernel) rfl
theorem q3_X7_kindFor : Cond.selects RX7 yX7_kindFor yX7_kindFor ∈ zTbl := zmem 612 (by decide +kernel) rfl
theorem q5_X7_kindFor : Cond.code yX7_kindFor cX7_kindFor 8 (some .int) ∈ zTbl := zmem 613 (by decide +kernel) rfl
theorem qd_X7_kindFor : yX7_kindFor.cls ≠ "java/lang/invoke/MethodHandle" ∧ yX7_kindFor.cls ≠ "java/lang/invoke/VarHandle" ∧ (parseMethodDescriptor yX7_kindFor.desc).map (fun d => d.parameters.length) = some 3 := by decide +kernel
theorem lm_L_116 : Cond.methodLink RL 116 yX8_kindFor ∈ zTbl := zmem 1262 (by decide +kernel) rfl
theorem q2_X8_kindFor : Cond.instanceMethod yX8_kindFor ∈ zTbl := zmem 1263 (by decide +kernel) rfl
theorem q3_X8_kindFor : Cond.selects RX8 yX8_kindFor yX8_kindFor ∈ zTbl := zmem 1264 (by decide +kernel) rfl
theorem q5_X8_kindFor : Cond.code yX8_kindFor cX8_kindFor 6 (some .int) ∈ zTbl := zmem 1265 (by decide +kernel) rfl
theorem qd_X8_kindFor : yX8_kindFor.cls ≠ "java/lang/invoke/MethodHandle" ∧ yX8_kindFor.cls ≠ "java/lang/invoke/VarHandle" ∧ (parseMethodDescriptor yX8_kindFor.desc).map (fun d => d.parameters.length) = some 3 := by decide +kernel
theorem lm_L_117 : Cond.methodLink RL 117 yX7_place ∈ zTbl := zmem 614 (by decide +kernel) rfl
theorem q2_X7_place : Cond.instanceMethod yX7_place ∈ zTbl := zmem 615 (by decide +kernel) rfl
theorem q3_X7_place : Cond.selects RX7 yX7_place yX7_place ∈ zTbl := zmem 616 (by decide +kernel) rfl
theorem q5_X7_place : Cond.code yX7_place cX7_place 8 (some .int) ∈ zTbl := zmem 617 (by decide +kernel) rfl
theorem qd_X7_place : yX7_place.cls ≠ "java/lang/invoke/MethodHandle" ∧ yX7_place.cls ≠ "java/lang/invoke/VarHandle" ∧ (parseMethodDescriptor yX7_place.desc).map (fun d => d.parameters.length) = some 3 := by decide +kernel
theorem lm_L_120 : Cond.methodLink RL 120 yX8_place ∈ zTbl := zmem 1266 (by decide +kernel) rfl
theorem q2_X8_place : Cond.instanceMethod yX8_place ∈ zTbl := zmem 1267 (by decide +kernel) rfl
theorem q3_X8_place : Cond.selects RX8 yX8_place yX8_place ∈ zTbl := zmem 1268 (by decide +kernel) rfl
theorem q5_X8_place : Cond.code yX8_place cX8_place 6 (some .int) ∈ zTbl := zmem 1269 (by decide +kernel) rfl
theorem qd_X8_place : yX8_place.cls ≠ "java/lang/invoke/MethodHandle" ∧ yX8_place.cls ≠ "java/lang/invoke/VarHandle" ∧ (parseMethodDescriptor yX8_place.desc).map (fun d => d.parameters.length) = some 3 := by decide +kernel
theorem lm_L_121 : Cond.methodLink RL 121 yX7_safe ∈ zTbl := zmem 618 (by decide +kernel) rfl
theorem q2_X7_safe : Cond.instanceMethod yX7_safe ∈ zTbl := zmem 619 (by decide +kernel) rfl
theorem q3_X7_safe : Cond.selects RX7 yX7_safe yX7_safe ∈ zTbl := zmem 620 (by decide +kernel) rfl
theorem q5_X7_safe : Cond.code yX7_safe cX7_safe 4 (some .int) ∈ zTbl := zmem 621 (by decide +kernel) rfl
theorem qd_X7_safe : yX7_safe.cls ≠ "java/lang/invoke/MethodHandle" ∧ yX7_safe.cls ≠ "java/lang/invoke/VarHandle" ∧ (parseMethodDescriptor yX7_safe.desc).map (fun d => d.parameters.length) = some 0 := by decide +kernel
theorem lm_L_125 : Cond.methodLink RL 125 yX8_safe ∈ zTbl := zmem 1270 (by decide +kernel) rfl
theorem q2_X8_safe : Cond.instanceMethod yX8_safe ∈ zTbl := zmem 1271 (by decide +kernel) rfl
theorem q3_X8_safe : Cond.selects RX8 yX8_safe yX8_safe ∈ zTbl := zmem 1272 (by decide +kernel) rfl
theorem q5_X8_safe : Cond.code yX8_safe cX8_safe 3 (some .int) ∈ zTbl := zmem 1273 (by decide +kernel) rfl
theorem qd_X8_safe : yX8_safe.cls ≠ "java/lang/invoke/MethodHandle" ∧ yX8_safe.cls ≠ "java/lang/invoke/VarHandle" ∧ (parseMethodDescriptor yX8_safe.desc).map (fun d => d.parameters.length) = some 0 := by decide +kernel
theorem lm_L_126 : Cond.methodLink RL 126 yX7_selves ∈ zTbl := zmem 628 (by decide +kernel) rfl
theorem q2_X7_selves : Cond.instanceMethod yX7_selves ∈ zTbl := zmem 629 (by decide +kernel) rfl
theorem q3_X7_selves : Cond.selects RX7 yX7_selves yX7_selves ∈ zTbl := zmem 630 (by decide +kernel) rfl
theorem q5_X7_selves : Cond.code yX7_selves cX7_selves 4 (some .int) ∈ zTbl := zmem 631 (by decide +kernel) rfl
theorem qd_X7_selves : yX7_selves.cls ≠ "java/lang/invoke/MethodHandle" ∧ yX7_selves.cls ≠ "java/lang/invoke/VarHandle" ∧ (parseMethodDescriptor yX7_selves.desc).map (fun d => d.parameters.length) = some 0 := by decide +kernel
theorem lm_L_129 : Cond.methodLink RL 129 yX8_selves ∈ zTbl := zmem 1278 (by decide +kernel) rfl
theorem q2_X8_selves : Cond.instanceMethod yX8_selves ∈ zTbl := zmem 1279 (by decide +kernel) rfl
theorem q3_X8_selves : Cond.selects RX8 yX8_selves yX8_selves ∈ zTbl := zmem 1280 (by decide +kernel) rfl
theorem q5_X8_selves : Cond.code yX8_selves cX8_selves 4 (some .int) ∈ zTbl := zmem 1281 (by decide +kernel) rfl
theorem qd_X8_selves : yX8_selves.cls ≠ "java/lang/invoke/MethodHandle" ∧ yX8_selves.cls ≠ "java/lang/invoke/VarHandle" ∧ (parseMethodDescriptor yX8_selves.desc).map (fun d => d.parameters.length) = some 0 := by decide +kernel
theorem lm_L_130 : Cond.methodLink RL 130 yX7_agree ∈ zTbl := zmem 632 (by decide +kernel) rfl
theorem q2_X7_agree : Cond.instanceMethod yX7_agree ∈ zTbl := zmem 633 (by decide +kernel) rfl
theorem q3_X7_agree : Cond.selects RX7 yX7_agree yX7_agree ∈ zTbl := zmem 634 (by decide +kernel) rfl
theorem q5_X7_agree : Cond.code yX7_agree cX7_agree 8 (some .int) ∈ zTbl := zmem 635 (by decide +kernel) rfl
theorem qd_X7_agree : yX7_agree.cls ≠ "java/lang/invoke/MethodHandle" ∧ yX7_agree.cls ≠ "java/lang/invoke/VarHandle" ∧ (parseMethodDescriptor yX7_agree.desc).map (fun d => d.parameters.length) = some 4 := by decide +kernel
theorem lm_L_134 : Cond.methodLink RL 134 yX8_agree ∈ zTbl := zmem 1282 (by decide +kernel) rfl
theorem q2_X8_agree : Cond.instanceMethod yX8_agree ∈ zTbl := zmem 1283 (by decide +kernel) rfl
theorem q3_X8_agree : Cond.selects RX8 yX8_agree yX8_agree ∈ zTbl := zmem 1284 (by decide +kernel) rfl
theorem q5_X8_agree : Cond.code yX8_agree cX8_agree 8 (some .int) ∈ zTbl := zmem 1285 (by decide +kernel) rfl
theorem qd_X8_agree : yX8_agree.cls ≠ "java/lang/invoke/MethodHandle" ∧ yX8_agree.cls ≠ "java/lang/invoke/VarHandle" ∧ (parseMethodDescriptor yX8_agree.desc).map (fun d => d.parameters.length) = some 4 := by decide +kernel
theorem lm_L_135 : Cond.methodLink RL 135 yX7_opens ∈ zTbl := zmem 640 (by decide +kernel) rfl
theorem q2_X7_opens : Cond.instanceMethod yX7_opens ∈ zTbl := zmem 641 (by decide +kernel) rfl
theorem q3_X7_opens : Cond.selects RX7 yX7_opens yX7_opens ∈ zTbl := zmem 642 (by decide +kernel) rfl
theorem q5_X7_opens : Cond.code yX7_opens cX7_opens 9 (some .int) ∈ zTbl := zmem 643 (by decide +kernel) rfl
theorem qd_X7_opens : yX7_opens.cls ≠ "java/lang/invoke/MethodHandle" ∧ yX7_opens.cls ≠ "java/lang/invoke/VarHandle" ∧ (parseMethodDescriptor yX7_opens.desc).map (fun d => d.parameters.length) = some 3 := by decide +kernel
theorem lm_L_138 : Cond.methodLink RL 138 yX8_opens ∈ zTbl := zmem 1305 (by decide +kernel) rfl
theorem q2_X8_opens : Cond.instanceMethod yX8_opens ∈ zTbl := zmem 1306 (by decide +kernel) rfl
theorem q3_X8_opens : Cond.selects RX8 yX8_opens yX8_opens ∈ zTbl := zmem 1307 (by decide +kernel) rfl
theorem q5_X8_opens : Cond.code yX8_opens cX8_opens 6 (some .int) ∈ zTbl := zmem 1308 (by decide +kernel) rfl
theorem qd_X8_opens : yX8_opens.cls ≠ "java/lang/invoke/MethodHandle" ∧ yX8_opens.cls ≠ "java/lang/invoke/VarHandle" ∧ (parseMethodDescriptor yX8_opens.desc).map (fun d => d.parameters.length) = some 3 := by decide +kernel
theorem lm_L_139 : Cond.methodLink RL 139 yX7_copies ∈ zTbl := zmem 648 (by decide +kernel) rfl
theorem q2_X7_copies : Cond.instanceMethod yX7_copies ∈ zTbl := zmem 649 (by decide +kernel) rfl
theorem q3_X7_copies : Cond.selects RX7 yX7_copies yX7_copies ∈ zTbl := zmem 650 (by decide +kernel) rfl
theorem q5_X7_copies : Cond.code yX7_copies cX7_copies 6 (some .long) ∈ zTbl := zmem 651 (by decide +kernel) rfl
theorem qd_X7_copies : yX7_copies.cls ≠ "java/lang/invoke/MethodHandle" ∧ yX7_copies.cls ≠ "java/lang/invoke/VarHandle" ∧ (parseMethodDescriptor yX7_copies.desc).map (fun d => d.parameters.length) = some 2 := by decide +kernel
theorem lm_L_143 : Cond.methodLink RL 143 yX8_copies ∈ zTbl := zmem 1309 (by decide +kernel) rfl
theorem q2_X8_copies : Cond.instanceMethod yX8_copies ∈ zTbl := zmem 1310 (by decide +kernel) rfl
theorem q3_X8_copies : Cond.selects RX8 yX8_copies yX8_copies ∈ zTbl := zmem 1311 (by decide +kernel) rfl
theorem q5_X8_copies : Cond.code yX8_copies cX8_copies 5 (some .long) ∈ zTbl := zmem 1312 (by decide +kernel) rfl
theorem qd_X8_copies : yX8_copies.cls ≠ "java/lang/invoke/MethodHandle" ∧ yX8_copies.cls ≠ "java/lang/invoke/VarHandle" ∧ (parseMethodDescriptor yX8_copies.desc).map (fun d => d.parameters.length) = some 2 := by decide +kernel
theorem lm_L_144 : Cond.methodLink RL 144 yX7_all ∈ zTbl := zmem 654 (by decide +kernel) rfl
theorem q2_X7_all : Cond.instanceMethod yX7_all ∈ zTbl := zmem 655 (by decide +kernel) rfl
theorem q3_X7_all : Cond.selects RX7 yX7_all yX7_all ∈ zTbl := zmem 656 (by decide +kernel) rfl
theorem q5_X7_all : Cond.code yX7_all cX7_all 8 (some .long) ∈ zTbl := zmem 657 (by decide +kernel) rfl
theorem qd_X7_all : yX7_all.cls ≠ "java/lang/invoke/MethodHandle" ∧ yX7_all.cls ≠ "java/lang/invoke/VarHandle" ∧ (parseMethodDescriptor yX7_all.desc).map (fun d => d.parameters.length) = some 2 := by decide +kernel
theorem lm_L_147 : Cond.methodLink RL 147 yX8_all ∈ zTbl := zmem 1322 (by decide +kernel) rfl
theorem q2_X8_all : Cond.instanceMethod yX8_all ∈ zTbl := zmem 1323 (by decide +kernel) rfl
theorem q3_X8_all : Cond.selects RX8 yX8_all yX8_all ∈ zTbl := zmem 1324 (by decide +kernel) rfl
theorem q5_X8_all : Cond.code yX8_all cX8_all 8 (some .long) ∈ zTbl := zmem 1325 (by decide +kernel) rfl
theorem qd_X8_all : yX8_all.cls ≠ "java/lang/invoke/MethodHandle" ∧ yX8_all.cls ≠ "java/lang/invoke/VarHandle" ∧ (parseMethodDescriptor yX8_all.desc).map (fun d => d.parameters.length) = some 2 := by decide +kernel
theorem lm_L_148 : Cond.methodLink RL 148 yX7_weight ∈ zTbl := zmem 658 (by decide +kernel) rfl
theorem q2_X7_weight : Cond.instanceMethod yX7_weight ∈ zTbl := zmem 659 (by decide +kernel) rfl
theorem q3_X7_weight : Cond.selects RX7 yX7_weight yX7_weight ∈ zTbl := zmem 660 (by decide +kernel) rfl
theorem q5_X7_weight : Cond.code yX7_weight cX7_weight 15 (some .long) ∈ zTbl := zmem 661 (by decide +kernel) rfl
theorem qd_X7_weight : yX7_weight.cls ≠ "java/lang/invoke/MethodHandle" ∧ yX7_weight.cls ≠ "java/lang/invoke/VarHandle" ∧ (parseMethodDescriptor yX7_weight.desc).map (fun d => d.parameters.length) = some 3 := by decide +kernel
theorem lm_L_152 : Cond.methodLink RL 152 yX8_weight ∈ zTbl := zmem 1326 (by decide +kernel) rfl
theorem q2_X8_weight : Cond.instanceMethod yX8_weight ∈ zTbl := zmem 1327 (by decide +kernel) rfl
theorem q3_X8_weight : Cond.selects RX8 yX8_weight yX8_weight ∈ zTbl := zmem 1328 (by decide +kernel) rfl
theorem q5_X8_weight : Cond.code yX8_weight cX8_weight 15 (some .long) ∈ zTbl := zmem 1329 (by decide +kernel) rfl
theorem qd_X8_weight : yX8_weight.cls ≠ "java/lang/invoke/MethodHandle" ∧ yX8_weight.cls ≠ "java/lang/invoke/VarHandle" ∧ (parseMethodDescriptor yX8_weight.desc).map (fun d => d.parameters.length) = some 3 := by decide +kernel
theorem lm_L_153 : Cond.methodLink RL 153 yX7_deep ∈ zTbl := zmem 664 (by decide +kernel) rfl
theorem q2_X7_deep : Cond.instanceMethod yX7_deep ∈ zTbl := zmem 665 (by decide +kernel) rfl
theorem q3_X7_deep : Cond.selects RX7 yX7_deep yX7_deep ∈ zTbl := zmem 666 (by decide +kernel) rfl
theorem q5_X7_deep : Cond.code yX7_deep cX7_deep 6 (some .int) ∈ zTbl := zmem 667 (by decide +kernel) rfl
theorem qd_X7_deep : yX7_deep.cls ≠ "java/lang/invoke/MethodHandle" ∧ yX7_deep.cls ≠ "java/lang/invoke/VarHandle" ∧ (parseMethodDescriptor yX7_deep.desc).map (fun d => d.parameters.length) = some 2 := by decide +kernel
theorem lm_L_156 : Cond.methodLink RL 156 yX8_deep ∈ zTbl := zmem 1335 (by decide +kernel) rfl
theorem q2_X8_deep : Cond.instanceMethod yX8_deep ∈ zTbl := zmem 1336 (by decide +kernel) rfl
theorem q3_X8_deep : Cond.selects RX8 yX8_deep yX8_deep ∈ zTbl := zmem 1337 (by decide +kernel) rfl
theorem q5_X8_deep : Cond.code yX8_deep cX8_deep 4 (some .int) ∈ zTbl := zmem 1338 (by decide +kernel) rfl
theorem qd_X8_deep : yX8_deep.cls ≠ "java/lang/invoke/MethodHandle" ∧ yX8_deep.cls ≠ "java/lang/invoke/VarHandle" ∧ (parseMethodDescriptor yX8_deep.desc).map (fun d => d.parameters.length) = some 2 := by decide +kernel
theorem lm_L_157 : Cond.methodLink RL 157 yX7_days ∈ zTbl := zmem 669 (by decide +kernel) rfl
theorem q2_X7_days : Cond.instanceMethod yX7_days ∈ zTbl := zmem 670 (by decide +kernel) rfl
theorem q3_X7_days : Cond.selects RX7 yX7_days yX7_days ∈ zTbl := zmem 671 (by decide +kernel) rfl
theorem q5_X7_days : Cond.code yX7_days cX7_days 2 (some .int) ∈ zTbl := zmem 672 (by decide +kernel) rfl
theorem qd_X7_days : yX7_days.cls ≠ "java/lang/invoke/MethodHandle" ∧ yX7_days.cls ≠ "java/lang/invoke/VarHandle" ∧ (parseMethodDescriptor yX7_days.desc).map (fun d => d.parameters.length) = some 1 := by decide +kernel
theorem lm_L_160 : Cond.methodLink RL 160 yX8_days ∈ zTbl := zmem 1340 (by decide +kernel) rfl
theorem q2_X8_days : Cond.instanceMethod yX8_days ∈ zTbl := zmem 1341 (by decide +kernel) rfl
theorem q3_X8_days : Cond.selects RX8 yX8_days yX8_days ∈ zTbl := zmem 1342 (by decide +kernel) rfl
theorem q5_X8_days : Cond.code yX8_days cX8_days 2 (some .int) ∈ zTbl := zmem 1343 (by decide +kernel) rfl
theorem qd_X8_days : yX8_days.cls ≠ "java/lang/invoke/MethodHandle" ∧ yX8_days.cls ≠ "java/lang/invoke/VarHandle" ∧ (parseMethodDescriptor yX8_days.desc).map (fun d => d.parameters.length) = some 1 := by decide +kernel
theorem lm_L_161 : Cond.methodLink RL 161 yX7_ahead ∈ zTbl := zmem 688 (by decide +kernel) rfl
theorem q2_X7_ahead : Cond.instanceMethod yX7_ahead ∈ zTbl := zmem 689 (by decide +kernel) rfl
theorem q3_X7_ahead : Cond.selects RX7 yX7_ahead yX7_ahead ∈ zTbl := zmem 690 (by decide +kernel) rfl
theorem q5_X7_ahead : Cond.code yX7_ahead cX7_ahead 4 (some .int) ∈ zTbl := zmem 691 (by decide +kernel) rfl
theorem qd_X7_ahead : yX7_ahead.cls ≠ "java/lang/invoke/MethodHandle" ∧ yX7_ahead.cls ≠ "java/lang/invoke/VarHandle" ∧ (parseMethodDescriptor yX7_ahead.desc).map (fun d => d.parameters.length) = some 2 := by decide +kernel
theorem lm_L_164 : Cond.methodLink RL 164 yX8_ahead ∈ zTbl := zmem 1361 (by decide +kernel) rfl
theorem q2_X8_ahead : Cond.instanceMethod yX8_ahead ∈ zTbl := zmem 1362 (by decide +kernel) rfl
theorem q3_X8_ahead : Cond.selects RX8 yX8_ahead yX8_ahead ∈ zTbl := zmem 1363 (by decide +kernel) rfl
theorem q5_X8_ahead : Cond.code yX8_ahead cX8_ahead 5 (some .int) ∈ zTbl := zmem 1364 (by decide +kernel) rfl
theorem qd_X8_ahead : yX8_ahead.cls ≠ "java/lang/invoke/MethodHandle" ∧ yX8_ahead.cls ≠ "java/lang/invoke/VarHandle" ∧ (parseMethodDescriptor yX8_ahead.desc).map (fun d => d.parameters.length) = some 2 := by decide +kernel
theorem lm_L_165 : Cond.methodLink RL 165 yX7_when ∈ zTbl := zmem 692 (by decide +kernel) rfl
theorem q2_X7_when : Cond.instanceMethod yX7_when ∈ zTbl := zmem 693 (by decide +kernel) rfl
theorem q3_X7_when : Cond.selects RX7 yX7_when yX7_when ∈ zTbl := zmem 694 (by decide +kernel) rfl
theorem q5_X7_when : Cond.code yX7_when cX7_when 4 (some .int) ∈ zTbl := zmem 695 (by decide +kernel) rfl
theorem qd_X7_when : yX7_when.cls ≠ "java/lang/invoke/MethodHandle" ∧ yX7_when.cls ≠ "java/lang/invoke/VarHandle" ∧ (parseMethodDescriptor yX7_when.desc).map (fun d => d.parameters.length) = some 2 := by decide +kernel
theorem lm_L_168 : Cond.methodLink RL 168 yX8_when ∈ zTbl := zmem 1365 (by decide +kernel) rfl
theorem q2_X8_when : Cond.instanceMethod yX8_when ∈ zTbl := zmem 1366 (by decide +kernel) rfl
theorem q3_X8_when : Cond.selects RX8 yX8_when yX8_when ∈ zTbl := zmem 1367 (by decide +kernel) rfl
theorem q5_X8_when : Cond.code yX8_when cX8_when 4 (some .int) ∈ zTbl := zmem 1368 (by decide +kernel) rfl
theorem qd_X8_when : yX8_when.cls ≠ "java/lang/invoke/MethodHandle" ∧ yX8_when.cls ≠ "java/lang/invoke/VarHandle" ∧ (parseMethodDescriptor yX8_when.desc).map (fun d => d.parameters.length) = some 2 := by decide +kernel
theorem lm_L_169 : Cond.methodLink RL 169 yX7_seed ∈ zTbl := zmem 696 (by decide +kernel) rfl
theorem q2_X7_seed : Cond.instanceMethod yX7_seed ∈ zTbl := zmem 697 (by decide +kernel) rfl
theorem q3_X7_seed : Cond.selects RX7 yX7_seed yX7_seed ∈ zTbl := zmem 698 (by decide +kernel) rfl
theorem q5_X7_seed : Cond.code yX7_seed cX7_seed 3 (some .int) ∈ zTbl := zmem 699 (by decide +kernel) rfl
theorem qd_X7_seed : yX7_seed.cls ≠ "java/lang/invoke/MethodHandle" ∧ yX7_seed.cls ≠ "java/lang/invoke/VarHandle" ∧ (parseMethodDescriptor yX7_seed.desc).map (fun d => d.parameters.length) = some 1 := by decide +kernel
theorem lm_L_172 : Cond.methodLink RL 172 yX8_seed ∈ zTbl := zmem 1369 (by decide +kernel) rfl
theorem q2_X8_seed : Cond.instanceMethod yX8_seed ∈ zTbl := zmem 1370 (by decide +kernel) rfl
theorem q3_X8_seed : Cond.selects RX8 yX8_seed yX8_seed ∈ zTbl := zmem 1371 (by decide +kernel) rfl
theorem q5_X8_seed : Cond.code yX8_seed cX8_seed 3 (some .int) ∈ zTbl := zmem 1372 (by decide +kernel) rfl
theorem qd_X8_seed : yX8_seed.cls ≠ "java/lang/invoke/MethodHandle" ∧ yX8_seed.cls ≠ "java/lang/invoke/VarHandle" ∧ (parseMethodDescriptor yX8_seed.desc).map (fun d => d.parameters.length) = some 1 := by decide +kernel
theorem lm_L_173 : Cond.methodLink RL 173 yX7_feed ∈ zTbl := zmem 700 (by decide +kernel) rfl
theorem q2_X7_feed : Cond.instanceMethod yX7_feed ∈ zTbl := zmem 701 (by decide +kernel) rfl
theorem q3_X7_feed : Cond.selects RX7 yX7_feed yX7_feed ∈ zTbl := zmem 702 (by decide +kernel) rfl
theorem q5_X7_feed : Cond.code yX7_feed cX7_feed 3 (some .int) ∈ zTbl := zmem 703 (by decide +kernel) rfl
theorem qd_X7_feed : yX7_feed.cls ≠ "java/lang/invoke/MethodHandle" ∧ yX7_feed.cls ≠ "java/lang/invoke/VarHandle" ∧ (parseMethodDescriptor yX7_feed.desc).map (fun d => d.parameters.length) = some 2 := by decide +kernel
theorem lm_L_176 : Cond.methodLink RL 176 yX8_feed ∈ zTbl := zmem 1373 (by decide +kernel) rfl
theorem q2_X8_feed : Cond.instanceMethod yX8_feed ∈ zTbl := zmem 1374 (by decide +kernel) rfl
theorem q3_X8_feed : Cond.selects RX8 yX8_feed yX8_feed ∈ zTbl := zmem 1375 (by decide +kernel) rfl
theorem q5_X8_feed : Cond.code yX8_feed cX8_feed 4 (some .int) ∈ zTbl := zmem 1376 (by decide +kernel) rfl
theorem qd_X8_feed : yX8_feed.cls ≠ "java/lang/invoke/MethodHandle" ∧ yX8_feed.cls ≠ "java/lang/invoke/VarHandle" ∧ (parseMethodDescriptor yX8_feed.desc).map (fun d => d.parameters.length) = some 2 := by decide +kernel
theorem lm_L_177 : Cond.methodLink RL 177 yX7_wipe ∈ zTbl := zmem 708 (by decide +kernel) rfl
theorem q2_X7_wipe : Cond.instanceMethod yX7_wipe ∈ zTbl := zmem 709 (by decide +kernel) rfl
theorem q3_X7_wipe : Cond.selects RX7 yX7_wipe yX7_wipe ∈ zTbl := zmem 710 (by decide +kernel) rfl
theorem q5_X7_wipe : Cond.code yX7_wipe cX7_wipe 2 (some .int) ∈ zTbl := zmem 711 (by decide +kernel) rfl
theorem qd_X7_wipe : yX7_wipe.cls ≠ "java/lang/invoke/MethodHandle" ∧ yX7_wipe.cls ≠ "java/lang/invoke/VarHandle" ∧ (parseMethodDescriptor yX7_wipe.desc).map (fun d => d.parameters.length) = some 0 := by decide +kernel
theorem lm_L_180 : Cond.methodLink RL 180 yX8_wipe ∈ zTbl := zmem 1377 (by decide +kernel) rfl
theorem q2_X8_wipe : Cond.instanceMethod yX8_wipe ∈ zTbl := zmem 1378 (by decide +kernel) rfl
theorem q3_X8_wipe : Cond.selects RX8 yX8_wipe yX8_wipe ∈ zTbl := zmem 1379 (by decide +kernel) rfl
theorem q5_X8_wipe : Cond.code yX8_wipe cX8_wipe 2 (some .int) ∈ zTbl := zmem 1380 (by decide +kernel) rfl
theorem qd_X8_wipe : yX8_wipe.cls ≠ "java/lang/invoke/MethodHandle" ∧ yX8_wipe.cls ≠ "java/lang/invoke/VarHandle" ∧ (parseMethodDescriptor yX8_wipe.desc).map (fun d => d.parameters.length) = some 0 := by decide +kernel
theorem lm_L_181 : Cond.methodLink RL 181 yX7_text ∈ zTbl := zmem 712 (by decide +kernel) rfl
theorem q2_X7_text : Cond.instanceMethod yX7_text ∈ zTbl := zmem 713 (by decide +kernel) rfl
theorem q3_X7_text : Cond.selects RX7 yX7_text yX7_text ∈ zTbl := zmem 714 (by decide +kernel) rfl
theorem q5_X7_text : Cond.code yX7_text cX7_text 3 (some .int) ∈ zTbl := zmem 715 (by decide +kernel) rfl
theorem qd_X7_text : yX7_text.cls ≠ "java/lang/invoke/MethodHandle" ∧ yX7_text.cls ≠ "java/lang/invoke/VarHandle" ∧ (parseMethodDescriptor yX7_text.desc).map (fun d => d.parameters.length) = some 0 := by decide +kernel
theorem lm_L_184 : Cond.methodLink RL 184 yX8_text ∈ zTbl := zmem 1381 (by decide +kernel) rfl
theorem q2_X8_text : Cond.instanceMethod yX8_text ∈ zTbl := zmem 1382 (by decide +kernel) rfl
theorem q3_X8_text : Cond.selects RX8 yX8_text yX8_text ∈ zTbl := zmem 1383 (by decide +kernel) rfl
theorem q5_X8_text : Cond.code yX8_text cX8_text 2 (some .int) ∈ zTbl := zmem 1384 (by decide +kernel) rfl
theorem qd_X8_text : yX8_text.cls ≠ "java/lang/invoke/MethodHandle" ∧ yX8_text.cls ≠ "java/lang/invoke/VarHandle" ∧ (parseMethodDescriptor yX8_text.desc).map (fun d => d.parameters.length) = some 0 := by decide +kernel
theorem lm_L_185 : Cond.methodLink RL 185 yX7_hold ∈ zTbl := zmem 886 (by decide +kernel) rfl
theorem q2_X7_hold : Cond.instanceMethod yX7_hold ∈ zTbl := zmem 887 (by decide +kernel) rfl
theorem q3_X7_hold : Cond.selects RX7 yX7_hold yX7_hold ∈ zTbl := zmem 888 (by decide +kernel) rfl
theorem q5_X7_hold : Cond.code yX7_hold cX7_hold 3 (some .int) ∈ zTbl := zmem 889 (by decide +kernel) rfl
theorem qd_X7_hold : yX7_hold.cls ≠ "java/lang/invoke/MethodHandle" ∧ yX7_hold.cls ≠ "java/lang/invoke/VarHandle" ∧ (parseMethodDescriptor yX7_hold.desc).map (fun d => d.parameters.length) = some 2 := by decide +kernel
theorem lm_L_188 : Cond.methodLink RL 188 yX8_hold ∈ zTbl := zmem 1460 (by decide +kernel) rfl
theorem q2_X8_hold : Cond.instanceMethod yX8_hold ∈ zTbl := zmem 1461 (by decide +kernel) rfl
theorem q3_X8_hold : Cond.selects RX8 yX8_hold yX8_hold ∈ zTbl := zmem 1462 (by decide +kernel) rfl
theorem q5_X8_hold : Cond.code yX8_hold cX8_hold 3 (some .int) ∈ zTbl := zmem 1463 (by decide +kernel) rfl
theorem qd_X8_hold : yX8_hold.cls ≠ "java/lang/invoke/MethodHandle" ∧ yX8_hold.cls ≠ "java/lang/invoke/VarHandle" ∧ (parseMethodDescriptor yX8_hold.desc).map (fun d => d.parameters.length) = some 2 := by decide +kernel
theorem lm_L_189 : Cond.methodLink RL 189 yX7_as ∈ zTbl := zmem 890 (by decide +kernel) rfl
theorem q2_X7_as : Cond.instanceMethod yX7_as ∈ zTbl := zmem 891 (by decide +kernel) rfl
theorem q3_X7_as : Cond.selects RX7 yX7_as yX7_as ∈ zTbl := zmem 892 (by decide +kernel) rfl
theorem q5_X7_as : Cond.code yX7_as cX7_as 4 (some .int) ∈ zTbl := zmem 893 (by decide +kernel) rfl
theorem qd_X7_as : yX7_as.cls ≠ "java/lang/invoke/MethodHandle" ∧ yX7_as.cls ≠ "java/lang/invoke/VarHandle" ∧ (parseMethodDescriptor yX7_as.desc).map (fun d => d.parameters.length) = some 2 := by decide +kernel
theorem lm_L_192 : Cond.methodLink RL 192 yX8_as ∈ zTbl := zmem 1464 (by decide +kernel) rfl
theorem q2_X8_as : Cond.instanceMethod yX8_as ∈ zTbl := zmem 1465 (by decide +kernel) rfl
theorem q3_X8_as : Cond.selects RX8 yX8_as yX8_as ∈ zTbl := zmem 1466 (by decide +kernel) rfl
theorem q5_X8_as : Cond.code yX8_as cX8_as 4 (some .int) ∈ zTbl := zmem 1467 (by decide +kernel) rfl
theorem qd_X8_as : yX8_as.cls ≠ "java/lang/invoke/MethodHandle" ∧ yX8_as.cls ≠ "java/lang/invoke/VarHandle" ∧ (parseMethodDescriptor yX8_as.desc).map (fun d => d.parameters.length) = some 2 := by decide +kernel
theorem lm_L_193 : Cond.methodLink RL 193 yX7_sheet ∈ zTbl := zmem 902 (by decide +kernel) rfl
theorem q2_X7_sheet : Cond.instanceMethod yX7_sheet ∈ zTbl := zmem 903 (by decide +kernel) rfl
theorem q3_X7_sheet : Cond.selects RX7 yX7_sheet yX7_sheet ∈ zTbl := zmem 904 (by decide +kernel) rfl
theorem q5_X7_sheet : Cond.code yX7_sheet cX7_sheet 4 (some .int) ∈ zTbl := zmem 905 (by decide +kernel) rfl
theorem qd_X7_sheet : yX7_sheet.cls ≠ "java/lang/invoke/MethodHandle" ∧ yX7_sheet.cls ≠ "java/lang/invoke/VarHandle" ∧ (parseMethodDescriptor yX7_sheet.desc).map (fun d => d.parameters.length) = some 3 := by decide +kernel
theorem lm_L_196 : Cond.methodLink RL 196 yX8_sheet ∈ zTbl := zmem 1474 (by decide +kernel) rfl
theorem q2_X8_sheet : Cond.instanceMethod yX8_sheet ∈ zTbl := zmem 1475 (by decide +kernel) rfl
theorem q3_X8_sheet : Cond.selects RX8 yX8_sheet yX8_sheet ∈ zTbl := zmem 1476 (by decide +kernel) rfl
theorem q5_X8_sheet : Cond.code yX8_sheet cX8_sheet 6 (some .int) ∈ zTbl := zmem 1477 (by decide +kernel) rfl
theorem qd_X8_sheet : yX8_sheet.cls ≠ "java/lang/invoke/MethodHandle" ∧ yX8_sheet.cls ≠ "java/lang/invoke/VarHandle" ∧ (parseMethodDescriptor yX8_sheet.desc).map (fun d => d.parameters.length) = some 3 := by decide +kernel
theorem lm_L_197 : Cond.methodLink RL 197 yX7_write ∈ zTbl := zmem 914 (by decide +kernel) rfl
theorem q2_X7_write : Cond.instanceMethod yX7_write ∈ zTbl := zmem 915 (by decide +kernel) rfl
theorem q3_X7_write : Cond.selects RX7 yX7_write yX7_write ∈ zTbl := zmem 916 (by decide +kernel) rfl
theorem q5_X7_write : Cond.code yX7_write cX7_write 4 (some .int) ∈ zTbl := zmem 917 (by decide +kernel) rfl
theorem qd_X7_write : yX7_write.cls ≠ "java/lang/invoke/MethodHandle" ∧ yX7_write.cls ≠ "java/lang/invoke/VarHandle" ∧ (parseMethodDescriptor yX7_write.desc).map (fun d => d.parameters.length) = some 3 := by decide +kernel
theorem lm_L_200 : Cond.methodLink RL 200 yX8_write ∈ zTbl := zmem 1482 (by decide +kernel) rfl
theorem q2_X8_write : Cond.instanceMethod yX8_write ∈ zTbl := zmem 1483 (by decide +kernel) rfl
theorem q3_X8_write : Cond.selects RX8 yX8_write yX8_write ∈ zTbl := zmem 1484 (by decide +kernel) rfl
theorem q5_X8_write : Cond.code yX8_write cX8_write 5 (some .int) ∈ zTbl := zmem 1485 (by decide +kernel) rfl
theorem qd_X8_write : yX8_write.cls ≠ "java/lang/invoke/MethodHandle" ∧ yX8_write.cls ≠ "java/lang/invoke/VarHandle" ∧ (parseMethodDescriptor yX8_write.desc).map (fun d => d.parameters.length) = some 3 := by decide +kernel
theorem lm_L_201 : Cond.methodLink RL 201 yX7_copy ∈ zTbl := zmem 926 (by decide +kernel) rfl
theorem q2_X7_copy : Cond.instanceMethod yX7_copy ∈ zTbl := zmem 927 (by decide +kernel) rfl
theorem q3_X7_copy : Cond.selects RX7 yX7_copy yX7_copy ∈ zTbl := zmem 928 (by decide +kernel) rfl
theorem q5_X7_copy : Cond.code yX7_copy cX7_copy 6 (some .int) ∈ zTbl := zmem 929 (by decide +kernel) rfl
theorem qd_X7_copy : yX7_copy.cls ≠ "java/lang/invoke/MethodHandle" ∧ yX7_copy.cls ≠ "java/lang/invoke/VarHandle" ∧ (parseMethodDescriptor yX7_copy.desc).map (fun d => d.parameters.length) = some 5 := by decide +kernel
theorem lm_L_205 : Cond.methodLink RL 205 yX8_copy ∈ zTbl := zmem 1493 (by decide +kernel) rfl
theorem q2_X8_copy : Cond.instanceMethod yX8_copy ∈ zTbl := zmem 1494 (by decide +kernel) rfl
theorem q3_X8_copy : Cond.selects RX8 yX8_copy yX8_copy ∈ zTbl := zmem 1495 (by decide +kernel) rfl
theorem q5_X8_copy : Cond.code yX8_copy cX8_copy 8 (some .int) ∈ zTbl := zmem 1496 (by decide +kernel) rfl
theorem qd_X8_copy : yX8_copy.cls ≠ "java/lang/invoke/MethodHandle" ∧ yX8_copy.cls ≠ "java/lang/invoke/VarHandle" ∧ (parseMethodDescriptor yX8_copy.desc).map (fun d => d.parameters.length) = some 5 := by decide +kernel
theorem lm_L_206 : Cond.methodLink RL 206 yX7_load ∈ zTbl := zmem 935 (by decide +kernel) rfl
theorem q2_X7_load : Cond.instanceMethod yX7_load ∈ zTbl := zmem 936 (by decide +kernel) rfl
theorem q3_X7_load : Cond.selects RX7 yX7_load yX7_load ∈ zTbl := zmem 937 (by decide +kernel) rfl
theorem q5_X7_load : Cond.code yX7_load cX7_load 5 (some .int) ∈ zTbl := zmem 938 (by decide +kernel) rfl
theorem qd_X7_load : yX7_load.cls ≠ "java/lang/invoke/MethodHandle" ∧ yX7_load.cls ≠ "java/lang/invoke/VarHandle" ∧ (parseMethodDescriptor yX7_load.desc).map (fun d => d.parameters.length) = some 1 := by decide +kernel
theorem lm_L_209 : Cond.methodLink RL 209 yX8_load ∈ zTbl := zmem 1497 (by decide +kernel) rfl
theorem q2_X8_load : Cond.instanceMethod yX8_load ∈ zTbl := zmem 1498 (by decide +kernel) rfl
theorem q3_X8_load : Cond.selects RX8 yX8_load yX8_load ∈ zTbl := zmem 1499 (by decide +kernel) rfl
theorem q5_X8_load : Cond.code yX8_load cX8_load 4 (some .int) ∈ zTbl := zmem 1500 (by decide +kernel) rfl
theorem qd_X8_load : yX8_load.cls ≠ "java/lang/invoke/MethodHandle" ∧ yX8_load.cls ≠ "java/lang/invoke/VarHandle" ∧ (parseMethodDescriptor yX8_load.desc).map (fun d => d.parameters.length) = some 1 := by decide +kernel
theorem lm_L_210 : Cond.methodLink RL 210 yX7_judge ∈ zTbl := zmem 939 (by decide +kernel) rfl
theorem q2_X7_judge : Cond.instanceMethod yX7_judge ∈ zTbl := zmem 940 (by decide +kernel) rfl
theorem q3_X7_judge : Cond.selects RX7 yX7_judge yX7_judge ∈ zTbl := zmem 941 (by decide +kernel) rfl
theorem q5_X7_judge : Cond.code yX7_judge cX7_judge 7 (some .int) ∈ zTbl := zmem 942 (by decide +kernel) rfl
theorem qd_X7_judge : yX7_judge.cls ≠ "java/lang/invoke/MethodHandle" ∧ yX7_judge.cls ≠ "java/lang/invoke/VarHandle" ∧ (parseMethodDescriptor yX7_judge.desc).map (fun d => d.parameters.length) = some 2 := by decide +kernel
theorem lm_L_213 : Cond.methodLink RL 213 yX8_judge ∈ zTbl := zmem 1501 (by decide +kernel) rfl
theorem q2_X8_judge : Cond.instanceMethod yX8_judge ∈ zTbl := zmem 1502 (by decide +kernel) rfl
theorem q3_X8_judge : Cond.selects RX8 yX8_judge yX8_judge ∈ zTbl := zmem 1503 (by decide +kernel) rfl
theorem q5_X8_judge : Cond.code yX8_judge cX8_judge 7 (some .int) ∈ zTbl := zmem 1504 (by decide +kernel) rfl
theorem qd_X8_judge : yX8_judge.cls ≠ "java/lang/invoke/MethodHandle" ∧ yX8_judge.cls ≠ "java/lang/invoke/VarHandle" ∧ (parseMethodDescriptor yX8_judge.desc).map (fun d => d.parameters.length) = some 2 := by decide +kernel
theorem lm_L_214 : Cond.methodLink RL 214 yX7_image ∈ zTbl := zmem 944 (by decide +kernel) rfl
theorem q2_X7_image : Cond.instanceMethod yX7_image ∈ zTbl := zmem 945 (by decide +kernel) rfl
theorem q3_X7_image : Cond.selects RX7 yX7_image yX7_image ∈ zTbl := zmem 946 (by decide +kernel) rfl
theorem q5_X7_image : Cond.code yX7_image cX7_image 1 (some .int) ∈ zTbl := zmem 947 (by decide +kernel) rfl
theorem qd_X7_image : yX7_image.cls ≠ "java/lang/invoke/MethodHandle" ∧ yX7_image.cls ≠ "java/lang/invoke/VarHandle" ∧ (parseMethodDescriptor yX7_image.desc).map (fun d => d.parameters.length) = some 0 := by decide +kernel
theorem lm_L_217 : Cond.methodLink RL 217 yX8_image ∈ zTbl := zmem 1509 (by decide +kernel) rfl
theorem q2_X8_image : Cond.instanceMethod yX8_image ∈ zTbl := zmem 1510 (by decide +kernel) rfl
theorem q3_X8_image : Cond.selects RX8 yX8_image yX8_image ∈ zTbl := zmem 1511 (by decide +kernel) rfl
theorem q5_X8_image : Cond.code yX8_image cX8_image 1 (some .int) ∈ zTbl := zmem 1512 (by decide +kernel) rfl
theorem qd_X8_image : yX8_image.cls ≠ "java/lang/invoke/MethodHandle" ∧ yX8_image.cls ≠ "java/lang/invoke/VarHandle" ∧ (parseMethodDescriptor yX8_image.desc).map (fun d => d.parameters.length) = some 0 := by decide +kernel
theorem lm_L_218 : Cond.methodLink RL 218 yX7_undo ∈ zTbl := zmem 948 (by decide +kernel) rfl
theorem q2_X7_undo : Cond.instanceMethod yX7_undo ∈ zTbl := zmem 949 (by decide +kernel) rfl
theorem q3_X7_undo : Cond.selects RX7 yX7_undo yX7_undo ∈ zTbl := zmem 950 (by decide +kernel) rfl
theorem q5_X7_undo : Cond.code yX7_undo cX7_undo 1 (some .int) ∈ zTbl := zmem 951 (by decide +kernel) rfl
theorem qd_X7_undo : yX7_undo.cls ≠ "java/lang/invoke/MethodHandle" ∧ yX7_undo.cls ≠ "java/lang/invoke/VarHandle" ∧ (parseMethodDescriptor yX7_undo.desc).map (fun d => d.parameters.length) = some 0 := by decide +kernel
theorem lm_L_221 : Cond.methodLink RL 221 yX8_undo ∈ zTbl := zmem 1513 (by decide +kernel) rfl
theorem q2_X8_undo : Cond.instanceMethod yX8_undo ∈ zTbl := zmem 1514 (by decide +kernel) rfl
theorem q3_X8_undo : Cond.selects RX8 yX8_undo yX8_undo ∈ zTbl := zmem 1515 (by decide +kernel) rfl
theorem q5_X8_undo : Cond.code yX8_undo cX8_undo 1 (some .int) ∈ zTbl := zmem 1516 (by decide +kernel) rfl
theorem qd_X8_undo : yX8_undo.cls ≠ "java/lang/invoke/MethodHandle" ∧ yX8_undo.cls ≠ "java/lang/invoke/VarHandle" ∧ (parseMethodDescriptor yX8_undo.desc).map (fun d => d.parameters.length) = some 0 := by decide +kernel
theorem lm_L_222 : Cond.methodLink RL 222 yX7_tear ∈ zTbl := zmem 952 (by decide +kernel) rfl
theorem q2_X7_tear : Cond.instanceMethod yX7_tear ∈ zTbl := zmem 953 (by decide +kernel) rfl
theorem q3_X7_tear : Cond.selects RX7 yX7_tear yX7_tear ∈ zTbl := zmem 954 (by decide +kernel) rfl
theorem q5_X7_tear : Cond.code yX7_tear cX7_tear 2 (some .int) ∈ zTbl := zmem 955 (by decide +kernel) rfl
theorem qd_X7_tear : yX7_tear.cls ≠ "java/lang/invoke/MethodHandle" ∧ yX7_tear.cls ≠ "java/lang/invoke/VarHandle" ∧ (parseMethodDescriptor yX7_tear.desc).map (fun d => d.parameters.length) = some 0 := by decide +kernel
theorem lm_L_225 : Cond.methodLink RL 225 yX8_tear ∈ zTbl := zmem 1517 (by decide +kernel) rfl
theorem q2_X8_tear : Cond.instanceMethod yX8_tear ∈ zTbl := zmem 1518 (by decide +kernel) rfl
theorem q3_X8_tear : Cond.selects RX8 yX8_tear yX8_tear ∈ zTbl := zmem 1519 (by decide +kernel) rfl
theorem q5_X8_tear : Cond.code yX8_tear cX8_tear 2 (some .int) ∈ zTbl := zmem 1520 (by decide +kernel) rfl
theorem qd_X8_tear : yX8_tear.cls ≠ "java/lang/invoke/MethodHandle" ∧ yX8_tear.cls ≠ "java/lang/invoke/VarHandle" ∧ (parseMethodDescriptor yX8_tear.desc).map (fun d => d.parameters.length) = some 0 := by decide +kernel
theorem lm_L_226 : Cond.methodLink RL 226 yX7_count ∈ zTbl := zmem 956 (by decide +kernel) rfl
theorem q2_X7_count : Cond.instanceMethod yX7_count ∈ zTbl := zmem 957 (by decide +kernel) rfl
theorem q3_X7_count : Cond.selects RX7 yX7_count yX7_count ∈ zTbl := zmem 958 (by decide +kernel) rfl
theorem q5_X7_count : Cond.code yX7_count cX7_count 2 (some .int) ∈ zTbl := zmem 959 (by decide +kernel) rfl
theorem qd_X7_count : yX7_count.cls ≠ "java/lang/invoke/MethodHandle" ∧ yX7_count.cls ≠ "java/lang/invoke/VarHandle" ∧ (parseMethodDescriptor yX7_count.desc).map (fun d => d.parameters.length) = some 1 := by decide +kernel
theorem lm_L_229 : Cond.methodLink RL 229 yX8_count ∈ zTbl := zmem 1521 (by decide +kernel) rfl
theorem q2_X8_count : Cond.instanceMethod yX8_count ∈ zTbl := zmem 1522 (by decide +kernel) rfl
theorem q3_X8_count : Cond.selects RX8 yX8_count yX8_count ∈ zTbl := zmem 1523 (by decide +kernel) rfl
theorem q5_X8_count : Cond.code yX8_count cX8_count 2 (some .int) ∈ zTbl := zmem 1524 (by decide +kernel) rfl
theorem qd_X8_count : yX8_count.cls ≠ "java/lang/invoke/MethodHandle" ∧ yX8_count.cls ≠ "java/lang/invoke/VarHandle" ∧ (parseMethodDescriptor yX8_count.desc).map (fun d => d.parameters.length) = some 1 := by decide +kernel
theorem lm_L_230 : Cond.methodLink RL 230 yX7_status ∈ zTbl := zmem 964 (by decide +kernel) rfl
theorem q2_X7_status : Cond.instanceMethod yX7_status ∈ zTbl := zmem 965 (by decide +kernel) rfl
theorem q3_X7_status : Cond.selects RX7 yX7_status yX7_status ∈ zTbl := zmem 966 (by decide +kernel) rfl
theorem q5_X7_status : Cond.code yX7_status cX7_status 4 (some .int) ∈ zTbl := zmem 967 (by decide +kernel) rfl
theorem qd_X7_status : yX7_status.cls ≠ "java/lang/invoke/MethodHandle" ∧ yX7_status.cls ≠ "java/lang/invoke/VarHandle" ∧ (parseMethodDescriptor yX7_status.desc).map (fun d => d.parameters.length) = some 1 := by decide +kernel
theorem lm_L_233 : Cond.methodLink RL 233 yX8_status ∈ zTbl := zmem 1529 (by decide +kernel) rfl
theorem q2_X8_status : Cond.instanceMethod yX8_status ∈ zTbl := zmem 1530 (by decide +kernel) rfl
theorem q3_X8_status : Cond.selects RX8 yX8_status yX8_status ∈ zTbl := zmem 1531 (by decide +kernel) rfl
theorem q5_X8_status : Cond.code yX8_status cX8_status 4 (some .int) ∈ zTbl := zmem 1532 (by decide +kernel) rfl
theorem qd_X8_status : yX8_status.cls ≠ "java/lang/invoke/MethodHandle" ∧ yX8_status.cls ≠ "java/lang/invoke/VarHandle" ∧ (parseMethodDescriptor yX8_status.desc).map (fun d => d.parameters.length) = some 1 := by decide +kernel
/-! the law -/
def zst_door (Inv : zI → Prop) (n : Nat) : Prop := ∀ (I : zI) (L : zL) (c1 c2 c3 : Int32), Inv I → ∃ (r : Int32) (I1 : zI) (I2 : zI), fX7_door c1 c2 c3 I = some (r, I1) ∧ fX8_door c1 c2 c3 I1 = some (r, I2) ∧ Inv I2
def zst_rule (Inv : zI → Prop) (n : Nat) : Prop := ∀ (I : zI) (L : zL) (c1 c2 : Int32), Inv I → ∃ (r : Int32) (I1 : zI) (I2 : zI), fX7_rule c1 c2 I = some (r, I1) ∧ fX8_rule c1 c2 I1 = some (r, I2) ∧ Inv I2
def zst_thing (Inv : zI → Prop) (n : Nat) : Prop := ∀ (I : zI) (L : zL) (c1 c2 : Int32), Inv I → ∃ (r : Int32) (I1 : zI) (I2 : zI), fX7_thing c1 c2 I = some (r, I1) ∧ fX8_thing c1 c2 I1 = some (r, I2) ∧ Inv I2
def zst_of (Inv : zI → Prop) (n : Nat) : Prop := ∀ (I : zI) (L : zL) (c1 c2 : Int32), Inv I → ∃ (r : Int32) (I1 : zI) (I2 : zI), fX7_of c1 c2 I = some (r, I1) ∧ fX8_of c1 c2 I1 = some (r, I2) ∧ Inv I2
def zst_change (Inv : zI → Prop) (n : Nat) : Prop := ∀ (I : zI) (L : zL) (c1 c2 c3 : Int32), Inv I → ∃ (r : Int32) (I1 : zI) (I2 : zI), fX7_change c1 c2 c3 I = some (r, I1) ∧ fX8_change c1 c2 c3 I1 = some (r, I2) ∧ Inv I2
def zst_one (Inv : zI → Prop) (n : Nat) : Prop := ∀ (I : zI) (L : zL) (c1 : Int32), Inv I → ∃ (r : Int32) (I1 : zI) (I2 : zI), fX7_one c1 I = some (r, I1) ∧ fX8_one c1 I1 = some (r, I2) ∧ Inv I2
def zst_person (Inv : zI → Prop) (n : Nat) : Prop := ∀ (I : zI) (L : zL) (c1 c2 c3 : Int32), Inv I → ∃ (r : Int32) (I1 : zI) (I2 : zI), fX7_person c1 c2 c3 I = some (r, I1) ∧ fX8_person c1 c2 c3 I1 = some (r, I2) ∧ Inv I2
def zst_tell (Inv : zI → Prop) (n : Nat) : Prop := ∀ (I : zI) (L : zL) (c1 c2 : Int32), Inv I → ∃ (r : Int32) (I1 : zI) (I2 : zI), fX7_tell c1 c2 I = some (r, I1) ∧ fX8_tell c1 c2 I1 = some (r, I2) ∧ Inv I2
def zst_lie (Inv : zI → Prop) (n : Nat) : Prop := ∀ (I : zI) (L : zL) (c1 : Int32), Inv I → ∃ (r : Int32) (I1 : zI) (I2 : zI), fX7_lie n c1 I = some (r, I1) ∧ fX8_lie n c1 I1 = some (r, I2) ∧ Inv I2
def zst_walk (Inv : zI → Prop) (n : Nat) : Prop := ∀ (I : zI) (L : zL) (c1 c2 : Int32), Inv I → ∃ (r : Int32) (I1 : zI) (I2 : zI), fX7_walk c1 c2 I = some (r, I1) ∧ fX8_walk c1 c2 I1 = some (r, I2) ∧ Inv I2
def zst_in (Inv : zI → Prop) (n : Nat) : Prop := ∀ (I : zI) (L : zL) (c1 : Int32), Inv I → ∃ (r : Int32) (I1 : zI) (I2 : zI), fX7_in c1 I = some (r, I1) ∧ fX8_in c1 I1 = some (r, I2) ∧ Inv I2
def zst_out (Inv : zI → Prop) (n : Nat) : Prop := ∀ (I : zI) (L : zL) (c1 : Int32), Inv I → ∃ (r : Int32) (I1 : zI) (I2 : zI), fX7_out c1 I = some (r, I1) ∧ fX8_out c1 I1 = some (r, I2) ∧ Inv I2
def zst_carry (Inv : zI → Prop) (n : Nat) : Prop := ∀ (I : zI) (L : zL) (c1 c2 c3 : Int32), Inv I → ∃ (r : Int32) (I1 : zI) (I2 : zI), fX7_carry n c1 c2 c3 I = some (r, I1) ∧ fX8_carry n c1 c2 c3 I1 = some (r, I2) ∧ Inv I2
def zst_reach (Inv : zI → Prop) (n : Nat) : Prop := ∀ (I : zI) (L : zL) (c1 c2 c3 : Int32), Inv I → ∃ (r : Int32) (I1 : zI) (I2 : zI), fX7_reach n c1 c2 c3 I = some (r, I1) ∧ fX8_reach n c1 c2 c3 I1 = some (r, I2) ∧ Inv I2
def zst_lift (Inv : zI → Prop) (n : Nat) : Prop := ∀ (I : zI) (L : zL) (c1 c2 c3 : Int32), Inv I → ∃ (r : Int32) (I1 : zI) (I2 : zI), fX7_lift c1 c2 c3 I = some (r, I1) ∧ fX8_lift c1 c2 c3 I1 = some (r, I2) ∧ Inv I2
def zst_now (Inv : zI → Prop) (n : Nat) : Prop := ∀ (I : zI) (L : zL) (c1 : Int32), Inv I → ∃ (r : Int32) (I1 : zI) (I2 : zI), fX7_now c1 I = some (r, I1) ∧ fX8_now c1 I1 = some (r, I2) ∧ Inv I2
def zst_book (Inv : zI → Prop) (n : Nat) : Prop := ∀ (I : zI) (L : zL) (c1 c2 : Int32), Inv I → ∃ (r : Int32) (I1 : zI) (I2 : zI), fX7_book c1 c2 I = some (r, I1) ∧ fX8_book c1 c2 I1 = some (r, I2) ∧ Inv I2
def zst_ways (Inv : zI → Prop) (n : Nat) : Prop := ∀ (I : zI) (L : zL) (c1 : Int32), Inv I → ∃ (r : Int64) (I1 : zI) (I2 : zI), fX7_ways n c1 I = some (r, I1) ∧ fX8_ways n c1 I1 = some (r, I2) ∧ Inv I2
def zst_far (Inv : zI → Prop) (n : Nat) : Prop := ∀ (I : zI) (L : zL) (c1 c2 : Int32), Inv I → ∃ (r : Int32) (I1 : zI) (I2 : zI), fX7_far n c1 c2 I = some (r, I1) ∧ fX8_far n c1 c2 I1 = some (r, I2) ∧ Inv I2
def zst_task (Inv : zI → Prop) (n : Nat) : Prop := ∀ (I : zI) (L : zL) (c1 c2 c3 : Int32), Inv I → ∃ (r : Int32) (I1 : zI) (L1 : zL) (I2 : zI), fX7_task n c1 c2 c3 I L = some (r, I1, L1) ∧ fX8_task n c1 c2 c3 I1 = some (r, I2) ∧ Inv I2
def zst_who (Inv : zI → Prop) (n : Nat) : Prop := ∀ (I : zI) (L : zL) (c1 c2 : Int32), Inv I → ∃ (r : Int32) (I1 : zI) (L1 : zL) (I2 : zI), fX7_who n c1 c2 I L = some (r, I1, L1) ∧ fX8_who n c1 c2 I1 = some (r, I2) ∧ Inv I2
def zst_can (Inv : zI → Prop) (n : Nat) : Prop := ∀ (I : zI) (L : zL) (c1 c2 : Int32), Inv I → ∃ (r : Int32) (I1 : zI) (L1 : zL) (I2 : zI), fX7_can n c1 c2 I L = some (r, I1, L1) ∧ fX8_can n c1 c2 I1 = some (r, I2) ∧ Inv I2
def zst_above (Inv : zI → Prop) (n : Nat) : Prop := ∀ (I : zI) (L : zL) (c1 c2 : Int32), Inv I → ∃ (r : Int32) (I1 : zI) (L1 : zL) (I2 : zI), fX7_above n c1 c2 I L = some (r, I1, L1) ∧ fX8_above_ n c1 c2 I1 = some (r, I2) ∧ Inv I2
def zst_strong (Inv : zI → Prop) (n : Nat) : Prop := ∀ (I : zI) (L : zL) (c1 c2 c3 : Int32), Inv I → ∃ (r : Int32) (I1 : zI) (L1 : zL) (I2 : zI), fX7_strong n c1 c2 c3 I L = some (r, I1, L1) ∧ fX8_strong n c1 c2 c3 I1 = some (r, I2) ∧ Inv I2
def zst_kindFor (Inv : zI → Prop) (n : Nat) : Prop := ∀ (I : zI) (L : zL) (c1 c2 c3 : Int32), Inv I → ∃ (r : Int32) (I1 : zI) (L1 : zL) (I2 : zI), fX7_kindFor n c1 c2 c3 I L = some (r, I1, L1) ∧ fX8_kindFor n c1 c2 c3 I1 = some (r, I2) ∧ Inv I2
def zst_place (Inv : zI → Prop) (n : Nat) : Prop := ∀ (I : zI) (L : zL) (c1 c2 c3 : Int32), Inv I → ∃ (r : Int32) (I1 : zI) (L1 : zL) (I2 : zI), fX7_place n c1 c2 c3 I L = some (r, I1, L1) ∧ fX8_place n c1 c2 c3 I1 = some (r, I2) ∧ Inv I2
def zst_safe (Inv : zI → Prop) (n : Nat) : Prop := ∀ (I : zI) (L : zL), Inv I → ∃ (r : Int32), fX7_safe n I = some r ∧ fX8_safe n I = some r ∧ Inv I
def zst_selves (Inv : zI → Prop) (n : Nat) : Prop := ∀ (I : zI) (L : zL), Inv I → ∃ (r : Int32), fX7_selves n I = some r ∧ fX8_selves n I = some r ∧ Inv I
def zst_agree (Inv : zI → Prop) (n : Nat) : Prop := ∀ (I : zI) (L : zL) (c1 c2 c3 c4 : Int32), Inv I → ∃ (r : Int32) (I1 : zI) (I2 : zI), fX7_agree c1 c2 c3 c4 I = some (r, I1) ∧ fX8_agree n c1 c2 c3 c4 I1 = some (r, I2) ∧ Inv I2
def zst_opens (Inv : zI → Prop) (n : Nat) : Prop := ∀ (I : zI) (L : zL) (c1 c2 c3 : Int32), Inv I → ∃ (r : Int32) (I1 : zI) (L1 : zL) (I2 : zI), fX7_opens n c1 c2 c3 I L = some (r, I1, L1) ∧ fX8_opens n c1 c2 c3 I1 = some (r, I2) ∧ Inv I2
def zst_copies (Inv : zI → Prop) (n : Nat) : Prop := ∀ (I : zI) (L : zL) (c1 c2 : Int32), Inv I → ∃ (r : Int64) (I1 : zI) (I2 : zI), fX7_copies n c1 c2 I = some (r, I1) ∧ fX8_copies n c1 c2 I1 = some (r, I2) ∧ Inv I2
def zst_all (Inv : zI → Prop) (n : Nat) : Prop := ∀ (I : zI) (L : zL) (c1 c2 : Int32), Inv I → ∃ (r : Int64) (I1 : zI) (I2 : zI), fX7_all n c1 c2 I = some (r, I1) ∧ fX8_all n c1 c2 I1 = some (r, I2) ∧ Inv I2
def zst_weight (Inv : zI → Prop) (n : Nat) : Prop := ∀ (I : zI) (L : zL) (c1 c2 c3 : Int32), Inv I → ∃ (r : Int64) (I1 : zI) (I2 : zI), fX7_weight n c1 c2 c3 I = some (r, I1) ∧ fX8_weight n c1 c2 c3 I1 = some (r, I2) ∧ Inv I2
def zst_deep (Inv : zI → Prop) (n : Nat) : Prop := ∀ (I : zI) (L : zL) (c1 c2 : Int32), Inv I → ∃ (r : Int32) (I1 : zI) (I2 : zI), fX7_deep n c1 c2 I = some (r, I1) ∧ fX8_deep n c1 c2 I1 = some (r, I2) ∧ Inv I2
def zst_days (Inv : zI → Prop) (n : Nat) : Prop := ∀ (I : zI) (L : zL) (c1 : Int32), Inv I → ∃ (r : Int32) (I1 : zI) (I2 : zI), fX7_days n c1 I = some (r, I1) ∧ fX8_days n c1 I1 = some (r, I2) ∧ Inv I2
def zst_ahead (Inv : zI → Prop) (n : Nat) : Prop := ∀ (I : zI) (L : zL) (c1 c2 : Int32), Inv I → ∃ (r : Int32) (I1 : zI) (I2 : zI), fX7_ahead n c1 c2 I = some (r, I1) ∧ fX8_ahead n c1 c2 I1 = some (r, I2) ∧ Inv I2
def zst_when (Inv : zI → Prop) (n : Nat) : Prop := ∀ (I : zI) (L : zL) (c1 c2 : Int32), Inv I → ∃ (r : Int32) (I1 : zI) (I2 : zI), fX7_when n c1 c2 I = some (r, I1) ∧ fX8_when n c1 c2 I1 = some (r, I2) ∧ Inv I2
def zst_seed (Inv : zI → Prop) (n : Nat) : Prop := ∀ (I : zI) (L : zL) (c1 : Int32), Inv I → ∃ (r : Int32) (I1 : zI) (I2 : zI), fX7_seed c1 I = some (r, I1) ∧ fX8_seed c1 I1 = some (r, I2) ∧ Inv I2
def zst_feed (Inv : zI → Prop) (n : Nat) : Prop := ∀ (I : zI) (L : zL) (c1 c2 : Int32), Inv I → ∃ (r : Int32) (I1 : zI) (I2 : zI), fX7_feed n c1 c2 I = some (r, I1) ∧ fX8_feed n c1 c2 I1 = some (r, I2) ∧ Inv I2
def zst_wipe (Inv : zI → Prop) (n : Nat) : Prop := ∀ (I : zI) (L : zL), Inv I → ∃ (r : Int32) (I1 : zI) (I2 : zI), fX7_wipe I = some (r, I1) ∧ fX8_wipe I1 = some (r, I2) ∧ Inv I2
def zst_text (Inv : zI → Prop) (n : Nat) : Prop := ∀ (I : zI) (L : zL), Inv I → ∃ (r : Int32) (I1 : zI) (I2 : zI), fX7_text n I = some (r, I1) ∧ fX8_text n I1 = some (r, I2) ∧ Inv I2
def zst_hold (Inv : zI → Prop) (n : Nat) : Prop := ∀ (I : zI) (L : zL) (c1 c2 : Int32), Inv I → ∃ (r : Int32) (I1 : zI) (I2 : zI), fX7_hold c1 c2 I = some (r, I1) ∧ fX8_hold c1 c2 I1 = some (r, I2) ∧ Inv I2
def zst_as (Inv : zI → Prop) (n : Nat) : Prop := ∀ (I : zI) (L : zL) (c1 c2 : Int32), Inv I → ∃ (r : Int32) (I1 : zI) (I2 : zI), fX7_as n c1 c2 I = some (r, I1) ∧ fX8_as n c1 c2 I1 = some (r, I2) ∧ Inv I2
def zst_sheet (Inv : zI → Prop) (n : Nat) : Prop := ∀ (I : zI) (L : zL) (c1 c2 c3 : Int32), Inv I → ∃ (r : Int32) (I1 : zI) (I2 : zI), fX7_sheet c1 c2 c3 I = some (r, I1) ∧ fX8_sheet n c1 c2 c3 I1 = some (r, I2) ∧ Inv I2
def zst_write (Inv : zI → Prop) (n : Nat) : Prop := ∀ (I : zI) (L : zL) (c1 c2 c3 : Int32), Inv I → ∃ (r : Int32) (I1 : zI) (I2 : zI), fX7_write c1 c2 c3 I = some (r, I1) ∧ fX8_write c1 c2 c3 I1 = some (r, I2) ∧ Inv I2
def zst_copy (Inv : zI → Prop) (n : Nat) : Prop := ∀ (I : zI) (L : zL) (c1 c2 c3 c4 c5 : Int32), Inv I → ∃ (r : Int32) (I1 : zI) (I2 : zI), fX7_copy c1 c2 c3 c4 c5 I = some (r, I1) ∧ fX8_copy n c1 c2 c3 c4 c5 I1 = some (r, I2) ∧ Inv I2
def zst_load (Inv : zI → Prop) (n : Nat) : Prop := ∀ (I : zI) (L : zL) (c1 : Int32), Inv I → ∃ (r : Int32) (I1 : zI) (I2 : zI), fX7_load n c1 I = some (r, I1) ∧ fX8_load n c1 I1 = some (r, I2) ∧ Inv I2
def zst_judge (Inv : zI → Prop) (n : Nat) : Prop := ∀ (I : zI) (L : zL) (c1 c2 : Int32), Inv I → ∃ (r : Int32) (I1 : zI) (I2 : zI), fX7_judge n c1 c2 I = some (r, I1) ∧ fX8_judge n c1 c2 I1 = some (r, I2) ∧ Inv I2
def zst_image (Inv : zI → Prop) (n : Nat) : Prop := ∀ (I : zI) (L : zL), Inv I → ∃ (r : Int32) (I1 : zI) (I2 : zI), fX7_image I = some (r, I1) ∧ fX8_image n I1 = some (r, I2) ∧ Inv I2
def zst_undo (Inv : zI → Prop) (n : Nat) : Prop := ∀ (I : zI) (L : zL), Inv I → ∃ (r : Int32) (I1 : zI) (I2 : zI), fX7_undo I = some (r, I1) ∧ fX8_undo n I1 = some (r, I2) ∧ Inv I2
def zst_tear (Inv : zI → Prop) (n : Nat) : Prop := ∀ (I : zI) (L : zL), Inv I → ∃ (r : Int32) (I1 : zI) (I2 : zI), fX7_tear I = some (r, I1) ∧ fX8_tear I1 = some (r, I2) ∧ Inv I2
def zst_count (Inv : zI → Prop) (n : Nat) : Prop := ∀ (I : zI) (L : zL) (c1 : Int32), Inv I → ∃ (r : Int32) (I1 : zI) (I2 : zI), fX7_count n c1 I = some (r, I1) ∧ fX8_count n c1 I1 = some (r, I2) ∧ Inv I2
def zst_status (Inv : zI → Prop) (n : Nat) : Prop := ∀ (I : zI) (L : zL) (c1 : Int32), Inv I → ∃ (r : Int32) (I1 : zI) (I2 : zI), fX7_status n c1 I = some (r, I1) ∧ fX8_status n c1 I1 = some (r, I2) ∧ Inv I2
theorem zlg_self (r : Int64) : lg_cmp r r = 0 := by
  unfold lg_cmp
  rw [if_neg (by simp), if_pos rfl]
section ZLR
variable {α ω : Type} {p : Program} {l : Launch} {e : Env} {R : Room} {s : State} {m : MethodId} {args : Array Value} {below : List Frame} {meth : Method} {c : Code} {D : va_G} {T : zT} {ad sK sV : Nat → Nat} {A : Nat → Prop} {cc : ByteArray} {own : String} {nL cells slots : Nat} {ret : Option FieldType} {Qf : ω → State → Prop} {pc : Nat} {lv : List (Nat × Value)} {st : List Value} {I : zI} {L : zL} {K : α → Option ω} {t : Option α}
theorem zr_ieqT (hB : zB p s m args meth c D T ad A sK sV cc own nL ret) {x y : Int32} {off : Int} {tgt : Nat} (h : x = y) (ht : (pc : Int) + off = (tgt : Int)) (d : decode cc pc = .ok (.if_icmp .eq off, 3)) (k : zZ p l e R s m args below meth c D T ad A nL cells slots Qf tgt lv st I L K t) : zZ p l e R s m args below meth c D T ad A nL cells slots Qf pc lv (.int y :: .int x :: st) I L K t := fun o ho H locs ls hP hS hl => lv_icmp_eq hB.1 hB.2.1 d ht (fun _ => k o ho H locs ls hP hS hl) (fun q => absurd h q)
theorem zr_eq0T (hB : zB p s m args meth c D T ad A sK sV cc own nL ret) {off : Int} {tgt : Nat} (ht : (pc : Int) + off = (tgt : Int)) (d : decode cc pc = .ok (.ifCond .eq off, 3)) (k : zZ p l e R s m args below meth c D T ad A nL cells slots Qf tgt lv st I L K t) : zZ p l e R s m args below meth c D T ad A nL cells slots Qf pc lv (.int 0 :: st) I L K t := fun o ho H locs ls hP hS hl => lv_if_eq hB.1 hB.2.1 d ht (fun _ => k o ho H locs ls hP hS hl) (fun q => absurd rfl q)
theorem zr_gtT (hB : zB p s m args meth c D T ad A sK sV cc own nL ret) {x y : Int32} {off : Int} {tgt : Nat} (ht : (pc : Int) + off = (tgt : Int)) (d : decode cc pc = .ok (.if_icmp .gt off, 3)) (k1 : y < x → zZ p l e R s m args below meth c D T ad A nL cells slots Qf tgt lv st I L K t) (k2 : ¬ y < x → zZ p l e R s m args below meth c D T ad A nL cells slots Qf (pc + 3) lv st I L K t) : zZ p l e R s m args below meth c D T ad A nL cells slots Qf pc lv (.int y :: .int x :: st) I L K t := fun o ho H locs ls hP hS hl => lv_icmp_gt hB.1 hB.2.1 d ht (fun q => k1 q o ho H locs ls hP hS hl) (fun q => k2 q o ho H locs ls hP hS hl)
end ZLR
def zSteps (Inv : zI → Prop) (n : Nat) : Prop := zst_door Inv n ∧ zst_rule Inv n ∧ zst_thing Inv n ∧ zst_of Inv n ∧ zst_change Inv n ∧ zst_one Inv n ∧ zst_person Inv n ∧ zst_tell Inv n ∧ zst_lie Inv n ∧ zst_walk Inv n ∧ zst_in Inv n ∧ zst_out Inv n ∧ zst_carry Inv n ∧ zst_reach Inv n ∧ zst_lift Inv n ∧ zst_now Inv n ∧ zst_book Inv n ∧ zst_ways Inv n ∧ zst_far Inv n ∧ zst_task Inv n ∧ zst_who Inv n ∧ zst_can Inv n ∧ zst_above Inv n ∧ zst_strong Inv n ∧ zst_kindFor Inv n ∧ zst_place Inv n ∧ zst_safe Inv n ∧ zst_selves Inv n ∧ zst_agree Inv n ∧ zst_opens Inv n ∧ zst_copies Inv n ∧ zst_all Inv n ∧ zst_weight Inv n ∧ zst_deep Inv n ∧ zst_days Inv n ∧ zst_ahead Inv n ∧ zst_when Inv n ∧ zst_seed Inv n ∧ zst_feed Inv n ∧ zst_wipe Inv n ∧ zst_text Inv n ∧ zst_hold Inv n ∧ zst_as Inv n ∧ zst_sheet Inv n ∧ zst_write Inv n ∧ zst_copy Inv n ∧ zst_load Inv n ∧ zst_judge Inv n ∧ zst_image Inv n ∧ zst_undo Inv n ∧ zst_tear Inv n ∧ zst_count Inv n ∧ zst_status Inv n
theorem zlaw_gt {Ln i : Nat} (h : Ln < i + 6) (h2 : Ln ≤ 3072 ∧ i ≤ Ln + 6) : nI Ln - nI 6 < nI i := by
  rw [Int32.lt_iff_toInt_lt, pk_sub_toInt (by omega) (by omega), nI_toInt (by omega)]
  omega
section ZLAW
variable {p : Program} {l : Launch} {e : Env} {s : State} {m : MethodId} {below : List Frame} {meth : Method} {c : Code} {D : va_G} {T : zT} {ad sK sV : Nat → Nat} {A : Nat → Prop} {b Ln cells slots : Nat} {xs : Nat → Int32}
theorem zr_sld {R : Room} {args : Array Value} {α ω : Type} {cc : ByteArray} {own : String} {nL : Nat} {ret : Option FieldType} {Qf : ω → State → Prop} {pc : Nat} {lv : List (Nat × Value)} {st : List Value} {I : zI} {L : zL} {K : α → Option ω} {t : Option α} {j : Int32} (hB : zB p s m args meth c D T ad A sK sV cc own nL ret) (hX : va_X b Ln xs s s.heap) (hbl : b < s.heap.size) (hbA : ¬ A b) (hin : vp_in j Ln) (d : decode cc pc = .ok (.iaload, 1)) (k : zZ p l e R s m args below meth c D T ad A nL cells slots Qf (pc + 1) lv (.int (xs (zn j)) :: st) I L K t) : zZ p l e R s m args below meth c D T ad A nL cells slots Qf pc lv (.int j :: .ref b :: st) I L K t := fun o ho H locs ls hP hS hl => va_sld hB.1 hB.2.1 hX hbl hbA hS hin d (k o ho H locs ls hP hS hl)
theorem zr_slenL {R : Room} {args : Array Value} {α ω : Type} {cc : ByteArray} {own : String} {nL : Nat} {ret : Option FieldType} {Qf : ω → State → Prop} {pc : Nat} {lv : List (Nat × Value)} {st : List Value} {I : zI} {L : zL} {K : α → Option ω} {t : Option α} (hB : zB p s m args meth c D T ad A sK sV cc own nL ret) (hX : va_X b Ln xs s s.heap) (hbl : b < s.heap.size) (hbA : ¬ A b) (d : decode cc pc = .ok (.arraylength, 1)) (k : zZ p l e R s m args below meth c D T ad A nL cells slots Qf (pc + 1) lv (.int (nI Ln) :: st) I L K t) : zZ p l e R s m args below meth c D T ad A nL cells slots Qf pc lv (.ref b :: st) I L K t := fun o ho H locs ls hP hS hl => va_slen hB.1 hB.2.1 hX hbl hbA hS d (k o ho H locs ls hP hS hl)
theorem zr_callW {R : Room} {args : Array Value} {α ω : Type} {cc : ByteArray} {own : String} {nL : Nat} {ret rt : Option FieldType} {Qf : ω → State → Prop} {pc : Nat} {lv : List (Nat × Value)} {st : List Value} {I : zI} {L : zL} {K : α → Option ω} {t : Option α} {y : MethodName} {bytes : ByteArray} {maxL n fr lo index : Nat} {st0 As : List Value} {C : String} {w ci : Nat} {q : vw_C} {fs : List Value} {y0 : zO} (hB : zB p s m args meth c D T ad A sK sV cc own nL ret) (hM : zMet l y bytes maxL rt fr lo D T ad sK sV (.ref (ad w) :: As) I L y0) (hrecv : (zW T ad I L)[w]? = some (ad w, .inr (ci, fs))) (hc : vwCl[ci]? = some q) (hq : q.1 = C) (l1 : Cond.methodLink own index y ∈ zTbl) (l2 : Cond.instanceMethod y ∈ zTbl) (l3 : Cond.selects C y y ∈ zTbl) (l4 : Cond.initialized y.cls ∈ zTbl) (l5 : Cond.code y bytes maxL rt ∈ zTbl) (hd : y.cls ≠ "java/lang/invoke/MethodHandle" ∧ y.cls ≠ "java/lang/invoke/VarHandle" ∧ (parseMethodDescriptor y.desc).map (fun d => d.parameters.length) = some n) (hR : fr + 1 ≤ R.frames ∧ 8 + (maxL + 11) + lo ≤ R.locals) (hn : As.length = n) (hst : st0 = As.reverse ++ .ref (ad w) :: st) (hcat : (st.map fun v => v.category).sum ≤ 8) (hcs : cells ≤ R.cells ∧ slots ≤ R.slots) (d : decode cc pc = .ok (.invokevirtual index, 3)) (k : zZ p l e R s m args below meth c D T ad A nL cells slots Qf (pc + 3) lv (y0.1.toList ++ st) y0.2.1 y0.2.2 K t) : zZ p l e R s m args below meth c D T ad A nL cells slots Qf pc lv st0 I L K t :=
  zr_callV (tc := some ()) (tk := fun _ => t) (embc := fun _ => y0) hB (fun _ _ => hM) hrecv hc hq l1 l2 l3 l4 l5 hd hR hn hst hcat hcs d (fun _ => k)
set_option maxRecDepth 100000 in
theorem lc_0 {Inv : zI → Prop} {n : Nat} (hS : zst_door Inv n) (hB : zB p s m #[Value.ref b] meth c D T ad A sK sV code RL 4 ret) (hX : va_X b Ln xs s s.heap) (hbl : b < s.heap.size) (hbA : ¬ A b) (hLn : Ln ≤ 3072) (hcs : cells ≤ room_1.cells ∧ slots ≤ room_1.slots) {i : Nat} (hi : i + 6 ≤ Ln) {I : zI} {L : zL} (hI : Inv I) (k : ∀ (I2 : zI) (L2 : zL), Inv I2 → zZ p l e room_1 s m #[Value.ref b] below meth c D T ad A 4 cells slots (fun _ : Unit => lw_Z below #[Value.ref b] s) 1953 [(0, .ref b), (1, .ref (ad 0)), (2, .ref (ad 50)), (3, .int (nI i))] [] I2 L2 some (some ())) : zZ p l e room_1 s m #[Value.ref b] below meth c D T ad A 4 cells slots (fun _ : Unit => lw_Z below #[Value.ref b] s) 260 [(0, .ref b), (1, .ref (ad 0)), (2, .ref (ad 50)), (3, .int (nI i))] [] I L some (some ()) := by
  obtain ⟨r, I1, I2, h1, h2, hI2⟩ := hS I L (xs (zn (nI (i + 1)))) (xs (zn (nI (i + 2)))) (xs (zn (nI (i + 3)))) hI
  refine zr_aload_n hB 1 rfl rfl dL_law_260 ?_
  refine zr_aload_n hB 0 rfl rfl dL_law_261 ?_
  refine zr_iload_n hB 3 rfl rfl dL_law_262 ?_
  refine zr_iconst (v := nI 1) hB (by decide) dL_law_263 ?_
  refine zr_iadd hB dL_law_264 ?_
  rw [nI_add i 1]
  refine zr_sld hB hX hbl hbA (vp_in_nI (show i + 1 < Ln by omega) (by omega)) dL_law_265 ?_
  refine zr_aload_n hB 0 rfl rfl dL_law_266 ?_
  refine zr_iload_n hB 3 rfl rfl dL_law_267 ?_
  refine zr_iconst (v := nI 2) hB (by decide) dL_law_268 ?_
  refine zr_iadd hB dL_law_269 ?_
  rw [nI_add i 2]
  refine zr_sld hB hX hbl hbA (vp_in_nI (show i + 2 < Ln by omega) (by omega)) dL_law_270 ?_
  refine zr_aload_n hB 0 rfl rfl dL_law_271 ?_
  refine zr_iload_n hB 3 rfl rfl dL_law_272 ?_
  refine zr_iconst (v := nI 3) hB (by decide) dL_law_273 ?_
  refine zr_iadd hB dL_law_274 ?_
  rw [nI_add i 3]
  refine zr_sld hB hX hbl hbA (vp_in_nI (show i + 3 < Ln by omega) (by omega)) dL_law_275 ?_
  refine zr_callW (st := []) (C := RX7) (w := 0) (As := [.int (xs (zn (nI (i + 1)))), .int (xs (zn (nI (i + 2)))), .int (xs (zn (nI (i + 3))))]) (y0 := (some (.int r), I1, L)) hB (mX7_door (sK := sK) (sV := sV) hB.2.2.2.2.2.2.2.2.1 (xs (zn (nI (i + 1)))) (xs (zn (nI (i + 2)))) (xs (zn (nI (i + 3)))) I L (r, I1) h1) (zW_X7 rfl) rfl rfl lm_L_13 q2_X7_door q3_X7_door q4_X7 q5_X7_door qd_X7_door (by decide) rfl rfl (Nat.le_of_ble_eq_true rfl) hcs dL_law_276 ?_
  refine zr_aload_n hB 2 rfl rfl dL_law_279 ?_
  refine zr_aload_n hB 0 rfl rfl dL_law_280 ?_
  refine zr_iload_n hB 3 rfl rfl dL_law_281 ?_
  refine zr_iconst (v := nI 1) hB (by decide) dL_law_282 ?_
  refine zr_iadd hB dL_law_283 ?_
  rw [nI_add i 1]
  refine zr_sld hB hX hbl hbA (vp_in_nI (show i + 1 < Ln by omega) (by omega)) dL_law_284 ?_
  refine zr_aload_n hB 0 rfl rfl dL_law_285 ?_
  refine zr_iload_n hB 3 rfl rfl dL_law_286 ?_
  refine zr_iconst (v := nI 2) hB (by decide) dL_law_287 ?_
  refine zr_iadd hB dL_law_288 ?_
  rw [nI_add i 2]
  refine zr_sld hB hX hbl hbA (vp_in_nI (show i + 2 < Ln by omega) (by omega)) dL_law_289 ?_
  refine zr_aload_n hB 0 rfl rfl dL_law_290 ?_
  refine zr_iload_n hB 3 rfl rfl dL_law_291 ?_
  refine zr_iconst (v := nI 3) hB (by decide) dL_law_292 ?_
  refine zr_iadd hB dL_law_293 ?_
  rw [nI_add i 3]
  refine zr_sld hB hX hbl hbA (vp_in_nI (show i + 3 < Ln by omega) (by omega)) dL_law_294 ?_
  refine zr_callW (st := [.int r]) (C := RX8) (w := 50) (As := [.int (xs (zn (nI (i + 1)))), .int (xs (zn (nI (i + 2)))), .int (xs (zn (nI (i + 3))))]) (y0 := (some (.int r), I2, L)) hB (mX8_door (sK := sK) (sV := sV) hB.2.2.2.2.2.2.2.2.1 (xs (zn (nI (i + 1)))) (xs (zn (nI (i + 2)))) (xs (zn (nI (i + 3)))) I1 L (r, I2) h2) (zW_X8 rfl) rfl rfl lm_L_17 q2_X8_door q3_X8_door q4_X8 q5_X8_door qd_X8_door (by decide) rfl rfl (Nat.le_of_ble_eq_true rfl) hcs dL_law_295 ?_
  refine zr_ieqT hB rfl (tgt := 1953) (by decide) dL_law_298 ?_
  exact k _ _ hI2
set_option maxRecDepth 100000 in
theorem lc_1 {Inv : zI → Prop} {n : Nat} (hS : zst_rule Inv n) (hB : zB p s m #[Value.ref b] meth c D T ad A sK sV code RL 4 ret) (hX : va_X b Ln xs s s.heap) (hbl : b < s.heap.size) (hbA : ¬ A b) (hLn : Ln ≤ 3072) (hcs : cells ≤ room_1.cells ∧ slots ≤ room_1.slots) {i : Nat} (hi : i + 6 ≤ Ln) {I : zI} {L : zL} (hI : Inv I) (k : ∀ (I2 : zI) (L2 : zL), Inv I2 → zZ p l e room_1 s m #[Value.ref b] below meth c D T ad A 4 cells slots (fun _ : Unit => lw_Z below #[Value.ref b] s) 1953 [(0, .ref b), (1, .ref (ad 0)), (2, .ref (ad 50)), (3, .int (nI i))] [] I2 L2 some (some ())) : zZ p l e room_1 s m #[Value.ref b] below meth c D T ad A 4 cells slots (fun _ : Unit => lw_Z below #[Value.ref b] s) 303 [(0, .ref b), (1, .ref (ad 0)), (2, .ref (ad 50)), (3, .int (nI i))] [] I L some (some ()) := by
  obtain ⟨r, I1, I2, h1, h2, hI2⟩ := hS I L (xs (zn (nI (i + 1)))) (xs (zn (nI (i + 2)))) hI
  refine zr_aload_n hB 1 rfl rfl dL_law_303 ?_
  refine zr_aload_n hB 0 rfl rfl dL_law_304 ?_
  refine zr_iload_n hB 3 rfl rfl dL_law_305 ?_
  refine zr_iconst (v := nI 1) hB (by decide) dL_law_306 ?_
  refine zr_iadd hB dL_law_307 ?_
  rw [nI_add i 1]
  refine zr_sld hB hX hbl hbA (vp_in_nI (show i + 1 < Ln by omega) (by omega)) dL_law_308 ?_
  refine zr_aload_n hB 0 rfl rfl dL_law_309 ?_
  refine zr_iload_n hB 3 rfl rfl dL_law_310 ?_
  refine zr_iconst (v := nI 2) hB (by decide) dL_law_311 ?_
  refine zr_iadd hB dL_law_312 ?_
  rw [nI_add i 2]
  refine zr_sld hB hX hbl hbA (vp_in_nI (show i + 2 < Ln by omega) (by omega)) dL_law_313 ?_
  refine zr_callW (st := []) (C := RX7) (w := 0) (As := [.int (xs (zn (nI (i + 1)))), .int (xs (zn (nI (i + 2))))]) (y0 := (some (.int r), I1, L)) hB (mX7_rule (sK := sK) (sV := sV) hB.2.2.2.2.2.2.2.2.1 (xs (zn (nI (i + 1)))) (xs (zn (nI (i + 2)))) I L (r, I1) h1) (zW_X7 rfl) rfl rfl lm_L_18 q2_X7_rule q3_X7_rule q4_X7 q5_X7_rule qd_X7_rule (by decide) rfl rfl (Nat.le_of_ble_eq_true rfl) hcs dL_law_314 ?_
  refine zr_aload_n hB 2 rfl rfl dL_law_317 ?_
  refine zr_aload_n hB 0 rfl rfl dL_law_318 ?_
  refine zr_iload_n hB 3 rfl rfl dL_law_319 ?_
  refine zr_iconst (v := nI 1) hB (by decide) dL_law_320 ?_
  refine zr_iadd hB dL_law_321 ?_
  rw [nI_add i 1]
  refine zr_sld hB hX hbl hbA (vp_in_nI (show i + 1 < Ln by omega) (by omega)) dL_law_322 ?_
  refine zr_aload_n hB 0 rfl rfl dL_law_323 ?_
  refine zr_iload_n hB 3 rfl rfl dL_law_324 ?_
  refine zr_iconst (v := nI 2) hB (by decide) dL_law_325 ?_
  refine zr_iadd hB dL_law_326 ?_
  rw [nI_add i 2]
  refine zr_sld hB hX hbl hbA (vp_in_nI (show i + 2 < Ln by omega) (by omega)) dL_law_327 ?_
  refine zr_callW (st := [.int r]) (C := RX8) (w := 50) (As := [.int (xs (zn (nI (i + 1)))), .int (xs (zn (nI (i + 2))))]) (y0 := (some (.int r), I2, L)) hB (mX8_rule (sK := sK) (sV := sV) hB.2.2.2.2.2.2.2.2.1 (xs (zn (nI (i + 1)))) (xs (zn (nI (i + 2)))) I1 L (r, I2) h2) (zW_X8 rfl) rfl rfl lm_L_22 q2_X8_rule q3_X8_rule q4_X8 q5_X8_rule qd_X8_rule (by decide) rfl rfl (Nat.le_of_ble_eq_true rfl) hcs dL_law_328 ?_
  refine zr_ieqT hB rfl (tgt := 1953) (by decide) dL_law_331 ?_
  exact k _ _ hI2
set_option maxRecDepth 100000 in
theorem lc_2 {Inv : zI → Prop} {n : Nat} (hS : zst_thing Inv n) (hB : zB p s m #[Value.ref b] meth c D T ad A sK sV code RL 4 ret) (hX : va_X b Ln xs s s.heap) (hbl : b < s.heap.size) (hbA : ¬ A b) (hLn : Ln ≤ 3072) (hcs : cells ≤ room_1.cells ∧ slots ≤ room_1.slots) {i : Nat} (hi : i + 6 ≤ Ln) {I : zI} {L : zL} (hI : Inv I) (k : ∀ (I2 : zI) (L2 : zL), Inv I2 → zZ p l e room_1 s m #[Value.ref b] below meth c D T ad A 4 cells slots (fun _ : Unit => lw_Z below #[Value.ref b] s) 1953 [(0, .ref b), (1, .ref (ad 0)), (2, .ref (ad 50)), (3, .int (nI i))] [] I2 L2 some (some ())) : zZ p l e room_1 s m #[Value.ref b] below meth c D T ad A 4 cells slots (fun _ : Unit => lw_Z below #[Value.ref b] s) 336 [(0, .ref b), (1, .ref (ad 0)), (2, .ref (ad 50)), (3, .int (nI i))] [] I L some (some ()) := by
  obtain ⟨r, I1, I2, h1, h2, hI2⟩ := hS I L (xs (zn (nI (i + 1)))) (xs (zn (nI (i + 2)))) hI
  refine zr_aload_n hB 1 rfl rfl dL_law_336 ?_
  refine zr_aload_n hB 0 rfl rfl dL_law_337 ?_
  refine zr_iload_n hB 3 rfl rfl dL_law_338 ?_
  refine zr_iconst (v := nI 1) hB (by decide) dL_law_339 ?_
  refine zr_iadd hB dL_law_340 ?_
  rw [nI_add i 1]
  refine zr_sld hB hX hbl hbA (vp_in_nI (show i + 1 < Ln by omega) (by omega)) dL_law_341 ?_
  refine zr_aload_n hB 0 rfl rfl dL_law_342 ?_
  refine zr_iload_n hB 3 rfl rfl dL_law_343 ?_
  refine zr_iconst (v := nI 2) hB (by decide) dL_law_344 ?_
  refine zr_iadd hB dL_law_345 ?_
  rw [nI_add i 2]
  refine zr_sld hB hX hbl hbA (vp_in_nI (show i + 2 < Ln by omega) (by omega)) dL_law_346 ?_
  refine zr_callW (st := []) (C := RX7) (w := 0) (As := [.int (xs (zn (nI (i + 1)))), .int (xs (zn (nI (i + 2))))]) (y0 := (some (.int r), I1, L)) hB (mX7_thing (sK := sK) (sV := sV) hB.2.2.2.2.2.2.2.2.1 (xs (zn (nI (i + 1)))) (xs (zn (nI (i + 2)))) I L (r, I1) h1) (zW_X7 rfl) rfl rfl lm_L_23 q2_X7_thing q3_X7_thing q4_X7 q5_X7_thing qd_X7_thing (by decide) rfl rfl (Nat.le_of_ble_eq_true rfl) hcs dL_law_347 ?_
  refine zr_aload_n hB 2 rfl rfl dL_law_350 ?_
  refine zr_aload_n hB 0 rfl rfl dL_law_351 ?_
  refine zr_iload_n hB 3 rfl rfl dL_law_352 ?_
  refine zr_iconst (v := nI 1) hB (by decide) dL_law_353 ?_
  refine zr_iadd hB dL_law_354 ?_
  rw [nI_add i 1]
  refine zr_sld hB hX hbl hbA (vp_in_nI (show i + 1 < Ln by omega) (by omega)) dL_law_355 ?_
  refine zr_aload_n hB 0 rfl rfl dL_law_356 ?_
  refine zr_iload_n hB 3 rfl rfl dL_law_357 ?_
  refine zr_iconst (v := nI 2) hB (by decide) dL_law_358 ?_
  refine zr_iadd hB dL_law_359 ?_
  rw [nI_add i 2]
  refine zr_sld hB hX hbl hbA (vp_in_nI (show i + 2 < Ln by omega) (by omega)) dL_law_360 ?_
  refine zr_callW (st := [.int r]) (C := RX8) (w := 50) (As := [.int (xs (zn (nI (i + 1)))), .int (xs (zn (nI (i + 2))))]) (y0 := (some (.int r), I2, L)) hB (mX8_thing (sK := sK) (sV := sV) hB.2.2.2.2.2.2.2.2.1 (xs (zn (nI (i + 1)))) (xs (zn (nI (i + 2)))) I1 L (r, I2) h2) (zW_X8 rfl) rfl rfl lm_L_26 q2_X8_thing q3_X8_thing q4_X8 q5_X8_thing qd_X8_thing (by decide) rfl rfl (Nat.le_of_ble_eq_true rfl) hcs dL_law_361 ?_
  refine zr_ieqT hB rfl (tgt := 1953) (by decide) dL_law_364 ?_
  exact k _ _ hI2
set_option maxRecDepth 100000 in
theorem lc_3 {Inv : zI → Prop} {n : Nat} (hS : zst_of Inv n) (hB : zB p s m #[Value.ref b] meth c D T ad A sK sV code RL 4 ret) (hX : va_X b Ln xs s s.heap) (hbl : b < s.heap.size) (hbA : ¬ A b) (hLn : Ln ≤ 3072) (hcs : cells ≤ room_1.cells ∧ slots ≤ room_1.slots) {i : Nat} (hi : i + 6 ≤ Ln) {I : zI} {L : zL} (hI : Inv I) (k : ∀ (I2 : zI) (L2 : zL), Inv I2 → zZ p l e room_1 s m #[Value.ref b] below meth c D T ad A 4 cells slots (fun _ : Unit => lw_Z below #[Value.ref b] s) 1953 [(0, .ref b), (1, .ref (ad 0)), (2, .ref (ad 50)), (3, .int (nI i))] [] I2 L2 some (some ())) : zZ p l e room_1 s m #[Value.ref b] below meth c D T ad A 4 cells slots (fun _ : Unit => lw_Z below #[Value.ref b] s) 369 [(0, .ref b), (1, .ref (ad 0)), (2, .ref (ad 50)), (3, .int (nI i))] [] I L some (some ()) := by
  obtain ⟨r, I1, I2, h1, h2, hI2⟩ := hS I L (xs (zn (nI (i + 1)))) (xs (zn (nI (i + 2)))) hI
  refine zr_aload_n hB 1 rfl rfl dL_law_369 ?_
  refine zr_aload_n hB 0 rfl rfl dL_law_370 ?_
  refine zr_iload_n hB 3 rfl rfl dL_law_371 ?_
  refine zr_iconst (v := nI 1) hB (by decide) dL_law_372 ?_
  refine zr_iadd hB dL_law_373 ?_
  rw [nI_add i 1]
  refine zr_sld hB hX hbl hbA (vp_in_nI (show i + 1 < Ln by omega) (by omega)) dL_law_374 ?_
  refine zr_aload_n hB 0 rfl rfl dL_law_375 ?_
  refine zr_iload_n hB 3 rfl rfl dL_law_376 ?_
  refine zr_iconst (v := nI 2) hB (by decide) dL_law_377 ?_
  refine zr_iadd hB dL_law_378 ?_
  rw [nI_add i 2]
  refine zr_sld hB hX hbl hbA (vp_in_nI (show i + 2 < Ln by omega) (by omega)) dL_law_379 ?_
  refine zr_callW (st := []) (C := RX7) (w := 0) (As := [.int (xs (zn (nI (i + 1)))), .int (xs (zn (nI (i + 2))))]) (y0 := (some (.int r), I1, L)) hB (mX7_of (sK := sK) (sV := sV) hB.2.2.2.2.2.2.2.2.1 (xs (zn (nI (i + 1)))) (xs (zn (nI (i + 2)))) I L (r, I1) h1) (zW_X7 rfl) rfl rfl lm_L_27 q2_X7_of q3_X7_of q4_X7 q5_X7_of qd_X7_of (by decide) rfl rfl (Nat.le_of_ble_eq_true rfl) hcs dL_law_380 ?_
  refine zr_aload_n hB 2 rfl rfl dL_law_383 ?_
  refine zr_aload_n hB 0 rfl rfl dL_law_384 ?_
  refine zr_iload_n hB 3 rfl rfl dL_law_385 ?_
  refine zr_iconst (v := nI 1) hB (by decide) dL_law_386 ?_
  refine zr_iadd hB dL_law_387 ?_
  rw [nI_add i 1]
  refine zr_sld hB hX hbl hbA (vp_in_nI (show i + 1 < Ln by omega) (by omega)) dL_law_388 ?_
  refine zr_aload_n hB 0 rfl rfl dL_law_389 ?_
  refine zr_iload_n hB 3 rfl rfl dL_law_390 ?_
  refine zr_iconst (v := nI 2) hB (by decide) dL_law_391 ?_
  refine zr_iadd hB dL_law_392 ?_
  rw [nI_add i 2]
  refine zr_sld hB hX hbl hbA (vp_in_nI (show i + 2 < Ln by omega) (by omega)) dL_law_393 ?_
  refine zr_callW (st := [.int r]) (C := RX8) (w := 50) (As := [.int (xs (zn (nI (i + 1)))), .int (xs (zn (nI (i + 2))))]) (y0 := (some (.int r), I2, L)) hB (mX8_of (sK := sK) (sV := sV) hB.2.2.2.2.2.2.2.2.1 (xs (zn (nI (i + 1)))) (xs (zn (nI (i + 2)))) I1 L (r, I2) h2) (zW_X8 rfl) rfl rfl lm_L_30 q2_X8_of q3_X8_of q4_X8 q5_X8_of qd_X8_of (by decide) rfl rfl (Nat.le_of_ble_eq_true rfl) hcs dL_law_394 ?_
  refine zr_ieqT hB rfl (tgt := 1953) (by decide) dL_law_397 ?_
  exact k _ _ hI2
set_option maxRecDepth 100000 in
theorem lc_4 {Inv : zI → Prop} {n : Nat} (hS : zst_change Inv n) (hB : zB p s m #[Value.ref b] meth c D T ad A sK sV code RL 4 ret) (hX : va_X b Ln xs s s.heap) (hbl : b < s.heap.size) (hbA : ¬ A b) (hLn : Ln ≤ 3072) (hcs : cells ≤ room_1.cells ∧ slots ≤ room_1.slots) {i : Nat} (hi : i + 6 ≤ Ln) {I : zI} {L : zL} (hI : Inv I) (k : ∀ (I2 : zI) (L2 : zL), Inv I2 → zZ p l e room_1 s m #[Value.ref b] below meth c D T ad A 4 cells slots (fun _ : Unit => lw_Z below #[Value.ref b] s) 1953 [(0, .ref b), (1, .ref (ad 0)), (2, .ref (ad 50)), (3, .int (nI i))] [] I2 L2 some (some ())) : zZ p l e room_1 s m #[Value.ref b] below meth c D T ad A 4 cells slots (fun _ : Unit => lw_Z below #[Value.ref b] s) 402 [(0, .ref b), (1, .ref (ad 0)), (2, .ref (ad 50)), (3, .int (nI i))] [] I L some (some ()) := by
  obtain ⟨r, I1, I2, h1, h2, hI2⟩ := hS I L (xs (zn (nI (i + 1)))) (xs (zn (nI (i + 2)))) (xs (zn (nI (i + 3)))) hI
  refine zr_aload_n hB 1 rfl rfl dL_law_402 ?_
  refine zr_aload_n hB 0 rfl rfl dL_law_403 ?_
  refine zr_iload_n hB 3 rfl rfl dL_law_404 ?_
  refine zr_iconst (v := nI 1) hB (by decide) dL_law_405 ?_
  refine zr_iadd hB dL_law_406 ?_
  rw [nI_add i 1]
  refine zr_sld hB hX hbl hbA (vp_in_nI (show i + 1 < Ln by omega) (by omega)) dL_law_407 ?_
  refine zr_aload_n hB 0 rfl rfl dL_law_408 ?_
  refine zr_iload_n hB 3 rfl rfl dL_law_409 ?_
  refine zr_iconst (v := nI 2) hB (by decide) dL_law_410 ?_
  refine zr_iadd hB dL_law_411 ?_
  rw [nI_add i 2]
  refine zr_sld hB hX hbl hbA (vp_in_nI (show i + 2 < Ln by omega) (by omega)) dL_law_412 ?_
  refine zr_aload_n hB 0 rfl rfl dL_law_413 ?_
  refine zr_iload_n hB 3 rfl rfl dL_law_414 ?_
  refine zr_iconst (v := nI 3) hB (by decide) dL_law_415 ?_
  refine zr_iadd hB dL_law_416 ?_
  rw [nI_add i 3]
  refine zr_sld hB hX hbl hbA (vp_in_nI (show i + 3 < Ln by omega) (by omega)) dL_law_417 ?_
  refine zr_callW (st := []) (C := RX7) (w := 0) (As := [.int (xs (zn (nI (i + 1)))), .int (xs (zn (nI (i + 2)))), .int (xs (zn (nI (i + 3))))]) (y0 := (some (.int r), I1, L)) hB (mX7_change (sK := sK) (sV := sV) hB.2.2.2.2.2.2.2.2.1 (xs (zn (nI (i + 1)))) (xs (zn (nI (i + 2)))) (xs (zn (nI (i + 3)))) I L (r, I1) h1) (zW_X7 rfl) rfl rfl lm_L_31 q2_X7_change q3_X7_change q4_X7 q5_X7_change qd_X7_change (by decide) rfl rfl (Nat.le_of_ble_eq_true rfl) hcs dL_law_418 ?_
  refine zr_aload_n hB 2 rfl rfl dL_law_421 ?_
  refine zr_aload_n hB 0 rfl rfl dL_law_422 ?_
  refine zr_iload_n hB 3 rfl rfl dL_law_423 ?_
  refine zr_iconst (v := nI 1) hB (by decide) dL_law_424 ?_
  refine zr_iadd hB dL_law_425 ?_
  rw [nI_add i 1]
  refine zr_sld hB hX hbl hbA (vp_in_nI (show i + 1 < Ln by omega) (by omega)) dL_law_426 ?_
  refine zr_aload_n hB 0 rfl rfl dL_law_427 ?_
  refine zr_iload_n hB 3 rfl rfl dL_law_428 ?_
  refine zr_iconst (v := nI 2) hB (by decide) dL_law_429 ?_
  refine zr_iadd hB dL_law_430 ?_
  rw [nI_add i 2]
  refine zr_sld hB hX hbl hbA (vp_in_nI (show i + 2 < Ln by omega) (by omega)) dL_law_431 ?_
  refine zr_aload_n hB 0 rfl rfl dL_law_432 ?_
  refine zr_iload_n hB 3 rfl rfl dL_law_433 ?_
  refine zr_iconst (v := nI 3) hB (by decide) dL_law_434 ?_
  refine zr_iadd hB dL_law_435 ?_
  rw [nI_add i 3]
  refine zr_sld hB hX hbl hbA (vp_in_nI (show i + 3 < Ln by omega) (by omega)) dL_law_436 ?_
  refine zr_callW (st := [.int r]) (C := RX8) (w := 50) (As := [.int (xs (zn (nI (i + 1)))), .int (xs (zn (nI (i + 2)))), .int (xs (zn (nI (i + 3))))]) (y0 := (some (.int r), I2, L)) hB (mX8_change (sK := sK) (sV := sV) hB.2.2.2.2.2.2.2.2.1 (xs (zn (nI (i + 1)))) (xs (zn (nI (i + 2)))) (xs (zn (nI (i + 3)))) I1 L (r, I2) h2) (zW_X8 rfl) rfl rfl lm_L_34 q2_X8_change q3_X8_change q4_X8 q5_X8_change qd_X8_change (by decide) rfl rfl (Nat.le_of_ble_eq_true rfl) hcs dL_law_437 ?_
  refine zr_ieqT hB rfl (tgt := 1953) (by decide) dL_law_440 ?_
  exact k _ _ hI2
set_option maxRecDepth 100000 in
theorem lc_5 {Inv : zI → Prop} {n : Nat} (hS : zst_one Inv n) (hB : zB p s m #[Value.ref b] meth c D T ad A sK sV code RL 4 ret) (hX : va_X b Ln xs s s.heap) (hbl : b < s.heap.size) (hbA : ¬ A b) (hLn : Ln ≤ 3072) (hcs : cells ≤ room_1.cells ∧ slots ≤ room_1.slots) {i : Nat} (hi : i + 6 ≤ Ln) {I : zI} {L : zL} (hI : Inv I) (k : ∀ (I2 : zI) (L2 : zL), Inv I2 → zZ p l e room_1 s m #[Value.ref b] below meth c D T ad A 4 cells slots (fun _ : Unit => lw_Z below #[Value.ref b] s) 1953 [(0, .ref b), (1, .ref (ad 0)), (2, .ref (ad 50)), (3, .int (nI i))] [] I2 L2 some (some ())) : zZ p l e room_1 s m #[Value.ref b] below meth c D T ad A 4 cells slots (fun _ : Unit => lw_Z below #[Value.ref b] s) 445 [(0, .ref b), (1, .ref (ad 0)), (2, .ref (ad 50)), (3, .int (nI i))] [] I L some (some ()) := by
  obtain ⟨r, I1, I2, h1, h2, hI2⟩ := hS I L (xs (zn (nI (i + 1)))) hI
  refine zr_aload_n hB 1 rfl rfl dL_law_445 ?_
  refine zr_aload_n hB 0 rfl rfl dL_law_446 ?_
  refine zr_iload_n hB 3 rfl rfl dL_law_447 ?_
  refine zr_iconst (v := nI 1) hB (by decide) dL_law_448 ?_
  refine zr_iadd hB dL_law_449 ?_
  rw [nI_add i 1]
  refine zr_sld hB hX hbl hbA (vp_in_nI (show i + 1 < Ln by omega) (by omega)) dL_law_450 ?_
  refine zr_callW (st := []) (C := RX7) (w := 0) (As := [.int (xs (zn (nI (i + 1))))]) (y0 := (some (.int r), I1, L)) hB (mX7_one (sK := sK) (sV := sV) hB.2.2.2.2.2.2.2.2.1 (xs (zn (nI (i + 1)))) I L (r, I1) h1) (zW_X7 rfl) rfl rfl lm_L_35 q2_X7_one q3_X7_one q4_X7 q5_X7_one qd_X7_one (by decide) rfl rfl (Nat.le_of_ble_eq_true rfl) hcs dL_law_451 ?_
  refine zr_aload_n hB 2 rfl rfl dL_law_454 ?_
  refine zr_aload_n hB 0 rfl rfl dL_law_455 ?_
  refine zr_iload_n hB 3 rfl rfl dL_law_456 ?_
  refine zr_iconst (v := nI 1) hB (by decide) dL_law_457 ?_
  refine zr_iadd hB dL_law_458 ?_
  rw [nI_add i 1]
  refine zr_sld hB hX hbl hbA (vp_in_nI (show i + 1 < Ln by omega) (by omega)) dL_law_459 ?_
  refine zr_callW (st := [.int r]) (C := RX8) (w := 50) (As := [.int (xs (zn (nI (i + 1))))]) (y0 := (some (.int r), I2, L)) hB (mX8_one (sK := sK) (sV := sV) hB.2.2.2.2.2.2.2.2.1 (xs (zn (nI (i + 1)))) I1 L (r, I2) h2) (zW_X8 rfl) rfl rfl lm_L_39 q2_X8_one q3_X8_one q4_X8 q5_X8_one qd_X8_one (by decide) rfl rfl (Nat.le_of_ble_eq_true rfl) hcs dL_law_460 ?_
  refine zr_ieqT hB rfl (tgt := 1953) (by decide) dL_law_463 ?_
  exact k _ _ hI2
set_option maxRecDepth 100000 in
theorem lc_6 {Inv : zI → Prop} {n : Nat} (hS : zst_person Inv n) (hB : zB p s m #[Value.ref b] meth c D T ad A sK sV code RL 4 ret) (hX : va_X b Ln xs s s.heap) (hbl : b < s.heap.size) (hbA : ¬ A b) (hLn : Ln ≤ 3072) (hcs : cells ≤ room_1.cells ∧ slots ≤ room_1.slots) {i : Nat} (hi : i + 6 ≤ Ln) {I : zI} {L : zL} (hI : Inv I) (k : ∀ (I2 : zI) (L2 : zL), Inv I2 → zZ p l e room_1 s m #[Value.ref b] below meth c D T ad A 4 cells slots (fun _ : Unit => lw_Z below #[Value.ref b] s) 1953 [(0, .ref b), (1, .ref (ad 0)), (2, .ref (ad 50)), (3, .int (nI i))] [] I2 L2 some (some ())) : zZ p l e room_1 s m #[Value.ref b] below meth c D T ad A 4 cells slots (fun _ : Unit => lw_Z below #[Value.ref b] s) 468 [(0, .ref b), (1, .ref (ad 0)), (2, .ref (ad 50)), (3, .int (nI i))] [] I L some (some ()) := by
  obtain ⟨r, I1, I2, h1, h2, hI2⟩ := hS I L (xs (zn (nI (i + 1)))) (xs (zn (nI (i + 2)))) (xs (zn (nI (i + 3)))) hI
  refine zr_aload_n hB 1 rfl rfl dL_law_468 ?_
  refine zr_aload_n hB 0 rfl rfl dL_law_469 ?_
  refine zr_iload_n hB 3 rfl rfl dL_law_470 ?_
  refine zr_iconst (v := nI 1) hB (by decide) dL_law_471 ?_
  refine zr_iadd hB dL_law_472 ?_
  rw [nI_add i 1]
  refine zr_sld hB hX hbl hbA (vp_in_nI (show i + 1 < Ln by omega) (by omega)) dL_law_473 ?_
  refine zr_aload_n hB 0 rfl rfl dL_law_474 ?_
  refine zr_iload_n hB 3 rfl rfl dL_law_475 ?_
  refine zr_iconst (v := nI 2) hB (by decide) dL_law_476 ?_
  refine zr_iadd hB dL_law_477 ?_
  rw [nI_add i 2]
  refine zr_sld hB hX hbl hbA (vp_in_nI (show i + 2 < Ln by omega) (by omega)) dL_law_478 ?_
  refine zr_aload_n hB 0 rfl rfl dL_law_479 ?_
  refine zr_iload_n hB 3 rfl rfl dL_law_480 ?_
  refine zr_iconst (v := nI 3) hB (by decide) dL_law_481 ?_
  refine zr_iadd hB dL_law_482 ?_
  rw [nI_add i 3]
  refine zr_sld hB hX hbl hbA (vp_in_nI (show i + 3 < Ln by omega) (by omega)) dL_law_483 ?_
  refine zr_callW (st := []) (C := RX7) (w := 0) (As := [.int (xs (zn (nI (i + 1)))), .int (xs (zn (nI (i + 2)))), .int (xs (zn (nI (i + 3))))]) (y0 := (some (.int r), I1, L)) hB (mX7_person (sK := sK) (sV := sV) hB.2.2.2.2.2.2.2.2.1 (xs (zn (nI (i + 1)))) (xs (zn (nI (i + 2)))) (xs (zn (nI (i + 3)))) I L (r, I1) h1) (zW_X7 rfl) rfl rfl lm_L_40 q2_X7_person q3_X7_person q4_X7 q5_X7_person qd_X7_person (by decide) rfl rfl (Nat.le_of_ble_eq_true rfl) hcs dL_law_484 ?_
  refine zr_aload_n hB 2 rfl rfl dL_law_487 ?_
  refine zr_aload_n hB 0 rfl rfl dL_law_488 ?_
  refine zr_iload_n hB 3 rfl rfl dL_law_489 ?_
  refine zr_iconst (v := nI 1) hB (by decide) dL_law_490 ?_
  refine zr_iadd hB dL_law_491 ?_
  rw [nI_add i 1]
  refine zr_sld hB hX hbl hbA (vp_in_nI (show i + 1 < Ln by omega) (by omega)) dL_law_492 ?_
  refine zr_aload_n hB 0 rfl rfl dL_law_493 ?_
  refine zr_iload_n hB 3 rfl rfl dL_law_494 ?_
  refine zr_iconst (v := nI 2) hB (by decide) dL_law_495 ?_
  refine zr_iadd hB dL_law_496 ?_
  rw [nI_add i 2]
  refine zr_sld hB hX hbl hbA (vp_in_nI (show i + 2 < Ln by omega) (by omega)) dL_law_497 ?_
  refine zr_aload_n hB 0 rfl rfl dL_law_498 ?_
  refine zr_iload_n hB 3 rfl rfl dL_law_499 ?_
  refine zr_iconst (v := nI 3) hB (by decide) dL_law_500 ?_
  refine zr_iadd hB dL_law_501 ?_
  rw [nI_add i 3]
  refine zr_sld hB hX hbl hbA (vp_in_nI (show i + 3 < Ln by omega) (by omega)) dL_law_502 ?_
  refine zr_callW (st := [.int r]) (C := RX8) (w := 50) (As := [.int (xs (zn (nI (i + 1)))), .int (xs (zn (nI (i + 2)))), .int (xs (zn (nI (i + 3))))]) (y0 := (some (.int r), I2, L)) hB (mX8_person (sK := sK) (sV := sV) hB.2.2.2.2.2.2.2.2.1 (xs (zn (nI (i + 1)))) (xs (zn (nI (i + 2)))) (xs (zn (nI (i + 3)))) I1 L (r, I2) h2) (zW_X8 rfl) rfl rfl lm_L_43 q2_X8_person q3_X8_person q4_X8 q5_X8_person qd_X8_person (by decide) rfl rfl (Nat.le_of_ble_eq_true rfl) hcs dL_law_503 ?_
  refine zr_ieqT hB rfl (tgt := 1953) (by decide) dL_law_506 ?_
  exact k _ _ hI2
set_option maxRecDepth 100000 in
theorem lc_7 {Inv : zI → Prop} {n : Nat} (hS : zst_tell Inv n) (hB : zB p s m #[Value.ref b] meth c D T ad A sK sV code RL 4 ret) (hX : va_X b Ln xs s s.heap) (hbl : b < s.heap.size) (hbA : ¬ A b) (hLn : Ln ≤ 3072) (hcs : cells ≤ room_1.cells ∧ slots ≤ room_1.slots) {i : Nat} (hi : i + 6 ≤ Ln) {I : zI} {L : zL} (hI : Inv I) (k : ∀ (I2 : zI) (L2 : zL), Inv I2 → zZ p l e room_1 s m #[Value.ref b] below meth c D T ad A 4 cells slots (fun _ : Unit => lw_Z below #[Value.ref b] s) 1953 [(0, .ref b), (1, .ref (ad 0)), (2, .ref (ad 50)), (3, .int (nI i))] [] I2 L2 some (some ())) : zZ p l e room_1 s m #[Value.ref b] below meth c D T ad A 4 cells slots (fun _ : Unit => lw_Z below #[Value.ref b] s) 511 [(0, .ref b), (1, .ref (ad 0)), (2, .ref (ad 50)), (3, .int (nI i))] [] I L some (some ()) := by
  obtain ⟨r, I1, I2, h1, h2, hI2⟩ := hS I L (xs (zn (nI (i + 1)))) (xs (zn (nI (i + 2)))) hI
  refine zr_aload_n hB 1 rfl rfl dL_law_511 ?_
  refine zr_aload_n hB 0 rfl rfl dL_law_512 ?_
  refine zr_iload_n hB 3 rfl rfl dL_law_513 ?_
  refine zr_iconst (v := nI 1) hB (by decide) dL_law_514 ?_
  refine zr_iadd hB dL_law_515 ?_
  rw [nI_add i 1]
  refine zr_sld hB hX hbl hbA (vp_in_nI (show i + 1 < Ln by omega) (by omega)) dL_law_516 ?_
  refine zr_aload_n hB 0 rfl rfl dL_law_517 ?_
  refine zr_iload_n hB 3 rfl rfl dL_law_518 ?_
  refine zr_iconst (v := nI 2) hB (by decide) dL_law_519 ?_
  refine zr_iadd hB dL_law_520 ?_
  rw [nI_add i 2]
  refine zr_sld hB hX hbl hbA (vp_in_nI (show i + 2 < Ln by omega) (by omega)) dL_law_521 ?_
  refine zr_callW (st := []) (C := RX7) (w := 0) (As := [.int (xs (zn (nI (i + 1)))), .int (xs (zn (nI (i + 2))))]) (y0 := (some (.int r), I1, L)) hB (mX7_tell (sK := sK) (sV := sV) hB.2.2.2.2.2.2.2.2.1 (xs (zn (nI (i + 1)))) (xs (zn (nI (i + 2)))) I L (r, I1) h1) (zW_X7 rfl) rfl rfl lm_L_44 q2_X7_tell q3_X7_tell q4_X7 q5_X7_tell qd_X7_tell (by decide) rfl rfl (Nat.le_of_ble_eq_true rfl) hcs dL_law_522 ?_
  refine zr_aload_n hB 2 rfl rfl dL_law_525 ?_
  refine zr_aload_n hB 0 rfl rfl dL_law_526 ?_
  refine zr_iload_n hB 3 rfl rfl dL_law_527 ?_
  refine zr_iconst (v := nI 1) hB (by decide) dL_law_528 ?_
  refine zr_iadd hB dL_law_529 ?_
  rw [nI_add i 1]
  refine zr_sld hB hX hbl hbA (vp_in_nI (show i + 1 < Ln by omega) (by omega)) dL_law_530 ?_
  refine zr_aload_n hB 0 rfl rfl dL_law_531 ?_
  refine zr_iload_n hB 3 rfl rfl dL_law_532 ?_
  refine zr_iconst (v := nI 2) hB (by decide) dL_law_533 ?_
  refine zr_iadd hB dL_law_534 ?_
  rw [nI_add i 2]
  refine zr_sld hB hX hbl hbA (vp_in_nI (show i + 2 < Ln by omega) (by omega)) dL_law_535 ?_
  refine zr_callW (st := [.int r]) (C := RX8) (w := 50) (As := [.int (xs (zn (nI (i + 1)))), .int (xs (zn (nI (i + 2))))]) (y0 := (some (.int r), I2, L)) hB (mX8_tell (sK := sK) (sV := sV) hB.2.2.2.2.2.2.2.2.1 (xs (zn (nI (i + 1)))) (xs (zn (nI (i + 2)))) I1 L (r, I2) h2) (zW_X8 rfl) rfl rfl lm_L_47 q2_X8_tell q3_X8_tell q4_X8 q5_X8_tell qd_X8_tell (by decide) rfl rfl (Nat.le_of_ble_eq_true rfl) hcs dL_law_536 ?_
  refine zr_ieqT hB rfl (tgt := 1953) (by decide) dL_law_539 ?_
  exact k _ _ hI2
set_option maxRecDepth 100000 in
theorem lc_8 {Inv : zI → Prop} {n : Nat} (hS : zst_lie Inv n) (hB : zB p s m #[Value.ref b] meth c D T ad A sK sV code RL 4 ret) (hX : va_X b Ln xs s s.heap) (hbl : b < s.heap.size) (hbA : ¬ A b) (hLn : Ln ≤ 3072) (hcs : cells ≤ room_1.cells ∧ slots ≤ room_1.slots) {i : Nat} (hi : i + 6 ≤ Ln) {I : zI} {L : zL} (hI : Inv I) (k : ∀ (I2 : zI) (L2 : zL), Inv I2 → zZ p l e room_1 s m #[Value.ref b] below meth c D T ad A 4 cells slots (fun _ : Unit => lw_Z below #[Value.ref b] s) 1953 [(0, .ref b), (1, .ref (ad 0)), (2, .ref (ad 50)), (3, .int (nI i))] [] I2 L2 some (some ())) : zZ p l e room_1 s m #[Value.ref b] below meth c D T ad A 4 cells slots (fun _ : Unit => lw_Z below #[Value.ref b] s) 544 [(0, .ref b), (1, .ref (ad 0)), (2, .ref (ad 50)), (3, .int (nI i))] [] I L some (some ()) := by
  obtain ⟨r, I1, I2, h1, h2, hI2⟩ := hS I L (xs (zn (nI (i + 1)))) hI
  refine zr_aload_n hB 1 rfl rfl dL_law_544 ?_
  refine zr_aload_n hB 0 rfl rfl dL_law_545 ?_
  refine zr_iload_n hB 3 rfl rfl dL_law_546 ?_
  refine zr_iconst (v := nI 1) hB (by decide) dL_law_547 ?_
  refine zr_iadd hB dL_law_548 ?_
  rw [nI_add i 1]
  refine zr_sld hB hX hbl hbA (vp_in_nI (show i + 1 < Ln by omega) (by omega)) dL_law_549 ?_
  refine zr_callW (st := []) (C := RX7) (w := 0) (As := [.int (xs (zn (nI (i + 1))))]) (y0 := (some (.int r), I1, L)) hB (mX7_lie (sK := sK) (sV := sV) hB.2.2.2.2.2.2.2.2.1 n (xs (zn (nI (i + 1)))) I L (r, I1) h1) (zW_X7 rfl) rfl rfl lm_L_48 q2_X7_lie q3_X7_lie q4_X7 q5_X7_lie qd_X7_lie (by decide) rfl rfl (Nat.le_of_ble_eq_true rfl) hcs dL_law_550 ?_
  refine zr_aload_n hB 2 rfl rfl dL_law_553 ?_
  refine zr_aload_n hB 0 rfl rfl dL_law_554 ?_
  refine zr_iload_n hB 3 rfl rfl dL_law_555 ?_
  refine zr_iconst (v := nI 1) hB (by decide) dL_law_556 ?_
  refine zr_iadd hB dL_law_557 ?_
  rw [nI_add i 1]
  refine zr_sld hB hX hbl hbA (vp_in_nI (show i + 1 < Ln by omega) (by omega)) dL_law_558 ?_
  refine zr_callW (st := [.int r]) (C := RX8) (w := 50) (As := [.int (xs (zn (nI (i + 1))))]) (y0 := (some (.int r), I2, L)) hB (mX8_lie (sK := sK) (sV := sV) hB.2.2.2.2.2.2.2.2.1 n (xs (zn (nI (i + 1)))) I1 L (r, I2) h2) (zW_X8 rfl) rfl rfl lm_L_51 q2_X8_lie q3_X8_lie q4_X8 q5_X8_lie qd_X8_lie (by decide) rfl rfl (Nat.le_of_ble_eq_true rfl) hcs dL_law_559 ?_
  refine zr_ieqT hB rfl (tgt := 1953) (by decide) dL_law_562 ?_
  exact k _ _ hI2
set_option maxRecDepth 100000 in
theorem lc_9 {Inv : zI → Prop} {n : Nat} (hS : zst_walk Inv n) (hB : zB p s m #[Value.ref b] meth c D T ad A sK sV code RL 4 ret) (hX : va_X b Ln xs s s.heap) (hbl : b < s.heap.size) (hbA : ¬ A b) (hLn : Ln ≤ 3072) (hcs : cells ≤ room_1.cells ∧ slots ≤ room_1.slots) {i : Nat} (hi : i + 6 ≤ Ln) {I : zI} {L : zL} (hI : Inv I) (k : ∀ (I2 : zI) (L2 : zL), Inv I2 → zZ p l e room_1 s m #[Value.ref b] below meth c D T ad A 4 cells slots (fun _ : Unit => lw_Z below #[Value.ref b] s) 1953 [(0, .ref b), (1, .ref (ad 0)), (2, .ref (ad 50)), (3, .int (nI i))] [] I2 L2 some (some ())) : zZ p l e room_1 s m #[Value.ref b] below meth c D T ad A 4 cells slots (fun _ : Unit => lw_Z below #[Value.ref b] s) 567 [(0, .ref b), (1, .ref (ad 0)), (2, .ref (ad 50)), (3, .int (nI i))] [] I L some (some ()) := by
  obtain ⟨r, I1, I2, h1, h2, hI2⟩ := hS I L (xs (zn (nI (i + 1)))) (xs (zn (nI (i + 2)))) hI
  refine zr_aload_n hB 1 rfl rfl dL_law_567 ?_
  refine zr_aload_n hB 0 rfl rfl dL_law_568 ?_
  refine zr_iload_n hB 3 rfl rfl dL_law_569 ?_
  refine zr_iconst (v := nI 1) hB (by decide) dL_law_570 ?_
  refine zr_iadd hB dL_law_571 ?_
  rw [nI_add i 1]
  refine zr_sld hB hX hbl hbA (vp_in_nI (show i + 1 < Ln by omega) (by omega)) dL_law_572 ?_
  refine zr_aload_n hB 0 rfl rfl dL_law_573 ?_
  refine zr_iload_n hB 3 rfl rfl dL_law_574 ?_
  refine zr_iconst (v := nI 2) hB (by decide) dL_law_575 ?_
  refine zr_iadd hB dL_law_576 ?_
  rw [nI_add i 2]
  refine zr_sld hB hX hbl hbA (vp_in_nI (show i + 2 < Ln by omega) (by omega)) dL_law_577 ?_
  refine zr_callW (st := []) (C := RX7) (w := 0) (As := [.int (xs (zn (nI (i + 1)))), .int (xs (zn (nI (i + 2))))]) (y0 := (some (.int r), I1, L)) hB (mX7_walk (sK := sK) (sV := sV) hB.2.2.2.2.2.2.2.2.1 (xs (zn (nI (i + 1)))) (xs (zn (nI (i + 2)))) I L (r, I1) h1) (zW_X7 rfl) rfl rfl lm_L_52 q2_X7_walk q3_X7_walk q4_X7 q5_X7_walk qd_X7_walk (by decide) rfl rfl (Nat.le_of_ble_eq_true rfl) hcs dL_law_578 ?_
  refine zr_aload_n hB 2 rfl rfl dL_law_581 ?_
  refine zr_aload_n hB 0 rfl rfl dL_law_582 ?_
  refine zr_iload_n hB 3 rfl rfl dL_law_583 ?_
  refine zr_iconst (v := nI 1) hB (by decide) dL_law_584 ?_
  refine zr_iadd hB dL_law_585 ?_
  rw [nI_add i 1]
  refine zr_sld hB hX hbl hbA (vp_in_nI (show i + 1 < Ln by omega) (by omega)) dL_law_586 ?_
  refine zr_aload_n hB 0 rfl rfl dL_law_587 ?_
  refine zr_iload_n hB 3 rfl rfl dL_law_588 ?_
  refine zr_iconst (v := nI 2) hB (by decide) dL_law_589 ?_
  refine zr_iadd hB dL_law_590 ?_
  rw [nI_add i 2]
  refine zr_sld hB hX hbl hbA (vp_in_nI (show i + 2 < Ln by omega) (by omega)) dL_law_591 ?_
  refine zr_callW (st := [.int r]) (C := RX8) (w := 50) (As := [.int (xs (zn (nI (i + 1)))), .int (xs (zn (nI (i + 2))))]) (y0 := (some (.int r), I2, L)) hB (mX8_walk (sK := sK) (sV := sV) hB.2.2.2.2.2.2.2.2.1 (xs (zn (nI (i + 1)))) (xs (zn (nI (i + 2)))) I1 L (r, I2) h2) (zW_X8 rfl) rfl rfl lm_L_55 q2_X8_walk q3_X8_walk q4_X8 q5_X8_walk qd_X8_walk (by decide) rfl rfl (Nat.le_of_ble_eq_true rfl) hcs dL_law_592 ?_
  refine zr_ieqT hB rfl (tgt := 1953) (by decide) dL_law_595 ?_
  exact k _ _ hI2
set_option maxRecDepth 100000 in
theorem lc_10 {Inv : zI → Prop} {n : Nat} (hS : zst_in Inv n) (hB : zB p s m #[Value.ref b] meth c D T ad A sK sV code RL 4 ret) (hX : va_X b Ln xs s s.heap) (hbl : b < s.heap.size) (hbA : ¬ A b) (hLn : Ln ≤ 3072) (hcs : cells ≤ room_1.cells ∧ slots ≤ room_1.slots) {i : Nat} (hi : i + 6 ≤ Ln) {I : zI} {L : zL} (hI : Inv I) (k : ∀ (I2 : zI) (L2 : zL), Inv I2 → zZ p l e room_1 s m #[Value.ref b] below meth c D T ad A 4 cells slots (fun _ : Unit => lw_Z below #[Value.ref b] s) 1953 [(0, .ref b), (1, .ref (ad 0)), (2, .ref (ad 50)), (3, .int (nI i))] [] I2 L2 some (some ())) : zZ p l e room_1 s m #[Value.ref b] below meth c D T ad A 4 cells slots (fun _ : Unit => lw_Z below #[Value.ref b] s) 600 [(0, .ref b), (1, .ref (ad 0)), (2, .ref (ad 50)), (3, .int (nI i))] [] I L some (some ()) := by
  obtain ⟨r, I1, I2, h1, h2, hI2⟩ := hS I L (xs (zn (nI (i + 1)))) hI
  refine zr_aload_n hB 1 rfl rfl dL_law_600 ?_
  refine zr_aload_n hB 0 rfl rfl dL_law_601 ?_
  refine zr_iload_n hB 3 rfl rfl dL_law_602 ?_
  refine zr_iconst (v := nI 1) hB (by decide) dL_law_603 ?_
  refine zr_iadd hB dL_law_604 ?_
  rw [nI_add i 1]
  refine zr_sld hB hX hbl hbA (vp_in_nI (show i + 1 < Ln by omega) (by omega)) dL_law_605 ?_
  refine zr_callW (st := []) (C := RX7) (w := 0) (As := [.int (xs (zn (nI (i + 1))))]) (y0 := (some (.int r), I1, L)) hB (mX7_in (sK := sK) (sV := sV) hB.2.2.2.2.2.2.2.2.1 (xs (zn (nI (i + 1)))) I L (r, I1) h1) (zW_X7 rfl) rfl rfl lm_L_56 q2_X7_in q3_X7_in q4_X7 q5_X7_in qd_X7_in (by decide) rfl rfl (Nat.le_of_ble_eq_true rfl) hcs dL_law_606 ?_
  refine zr_aload_n hB 2 rfl rfl dL_law_609 ?_
  refine zr_aload_n hB 0 rfl rfl dL_law_610 ?_
  refine zr_iload_n hB 3 rfl rfl dL_law_611 ?_
  refine zr_iconst (v := nI 1) hB (by decide) dL_law_612 ?_
  refine zr_iadd hB dL_law_613 ?_
  rw [nI_add i 1]
  refine zr_sld hB hX hbl hbA (vp_in_nI (show i + 1 < Ln by omega) (by omega)) dL_law_614 ?_
  refine zr_callW (st := [.int r]) (C := RX8) (w := 50) (As := [.int (xs (zn (nI (i + 1))))]) (y0 := (some (.int r), I2, L)) hB (mX8_in (sK := sK) (sV := sV) hB.2.2.2.2.2.2.2.2.1 (xs (zn (nI (i + 1)))) I1 L (r, I2) h2) (zW_X8 rfl) rfl rfl lm_L_59 q2_X8_in q3_X8_in q4_X8 q5_X8_in qd_X8_in (by decide) rfl rfl (Nat.le_of_ble_eq_true rfl) hcs dL_law_615 ?_
  refine zr_ieqT hB rfl (tgt := 1953) (by decide) dL_law_618 ?_
  exact k _ _ hI2
set_option maxRecDepth 100000 in
theorem lc_11 {Inv : zI → Prop} {n : Nat} (hS : zst_out Inv n) (hB : zB p s m #[Value.ref b] meth c D T ad A sK sV code RL 4 ret) (hX : va_X b Ln xs s s.heap) (hbl : b < s.heap.size) (hbA : ¬ A b) (hLn : Ln ≤ 3072) (hcs : cells ≤ room_1.cells ∧ slots ≤ room_1.slots) {i : Nat} (hi : i + 6 ≤ Ln) {I : zI} {L : zL} (hI : Inv I) (k : ∀ (I2 : zI) (L2 : zL), Inv I2 → zZ p l e room_1 s m #[Value.ref b] below meth c D T ad A 4 cells slots (fun _ : Unit => lw_Z below #[Value.ref b] s) 1953 [(0, .ref b), (1, .ref (ad 0)), (2, .ref (ad 50)), (3, .int (nI i))] [] I2 L2 some (some ())) : zZ p l e room_1 s m #[Value.ref b] below meth c D T ad A 4 cells slots (fun _ : Unit => lw_Z below #[Value.ref b] s) 623 [(0, .ref b), (1, .ref (ad 0)), (2, .ref (ad 50)), (3, .int (nI i))] [] I L some (some ()) := by
  obtain ⟨r, I1, I2, h1, h2, hI2⟩ := hS I L (xs (zn (nI (i + 1)))) hI
  refine zr_aload_n hB 1 rfl rfl dL_law_623 ?_
  refine zr_aload_n hB 0 rfl rfl dL_law_624 ?_
  refine zr_iload_n hB 3 rfl rfl dL_law_625 ?_
  refine zr_iconst (v := nI 1) hB (by decide) dL_law_626 ?_
  refine zr_iadd hB dL_law_627 ?_
  rw [nI_add i 1]
  refine zr_sld hB hX hbl hbA (vp_in_nI (show i + 1 < Ln by omega) (by omega)) dL_law_628 ?_
  refine zr_callW (st := []) (C := RX7) (w := 0) (As := [.int (xs (zn (nI (i + 1))))]) (y0 := (some (.int r), I1, L)) hB (mX7_out (sK := sK) (sV := sV) hB.2.2.2.2.2.2.2.2.1 (xs (zn (nI (i + 1)))) I L (r, I1) h1) (zW_X7 rfl) rfl rfl lm_L_60 q2_X7_out q3_X7_out q4_X7 q5_X7_out qd_X7_out (by decide) rfl rfl (Nat.le_of_ble_eq_true rfl) hcs dL_law_629 ?_
  refine zr_aload_n hB 2 rfl rfl dL_law_632 ?_
  refine zr_aload_n hB 0 rfl rfl dL_law_633 ?_
  refine zr_iload_n hB 3 rfl rfl dL_law_634 ?_
  refine zr_iconst (v := nI 1) hB (by decide) dL_law_635 ?_
  refine zr_iadd hB dL_law_636 ?_
  rw [nI_add i 1]
  refine zr_sld hB hX hbl hbA (vp_in_nI (show i + 1 < Ln by omega) (by omega)) dL_law_637 ?_
  refine zr_callW (st := [.int r]) (C := RX8) (w := 50) (As := [.int (xs (zn (nI (i + 1))))]) (y0 := (some (.int r), I2, L)) hB (mX8_out (sK := sK) (sV := sV) hB.2.2.2.2.2.2.2.2.1 (xs (zn (nI (i + 1)))) I1 L (r, I2) h2) (zW_X8 rfl) rfl rfl lm_L_63 q2_X8_out q3_X8_out q4_X8 q5_X8_out qd_X8_out (by decide) rfl rfl (Nat.le_of_ble_eq_true rfl) hcs dL_law_638 ?_
  refine zr_ieqT hB rfl (tgt := 1953) (by decide) dL_law_641 ?_
  exact k _ _ hI2
set_option maxRecDepth 100000 in
theorem lc_12 {Inv : zI → Prop} {n : Nat} (hS : zst_carry Inv n) (hB : zB p s m #[Value.ref b] meth c D T ad A sK sV code RL 4 ret) (hX : va_X b Ln xs s s.heap) (hbl : b < s.heap.size) (hbA : ¬ A b) (hLn : Ln ≤ 3072) (hcs : cells ≤ room_1.cells ∧ slots ≤ room_1.slots) {i : Nat} (hi : i + 6 ≤ Ln) {I : zI} {L : zL} (hI : Inv I) (k : ∀ (I2 : zI) (L2 : zL), Inv I2 → zZ p l e room_1 s m #[Value.ref b] below meth c D T ad A 4 cells slots (fun _ : Unit => lw_Z below #[Value.ref b] s) 1953 [(0, .ref b), (1, .ref (ad 0)), (2, .ref (ad 50)), (3, .int (nI i))] [] I2 L2 some (some ())) : zZ p l e room_1 s m #[Value.ref b] below meth c D T ad A 4 cells slots (fun _ : Unit => lw_Z below #[Value.ref b] s) 646 [(0, .ref b), (1, .ref (ad 0)), (2, .ref (ad 50)), (3, .int (nI i))] [] I L some (some ()) := by
  obtain ⟨r, I1, I2, h1, h2, hI2⟩ := hS I L (xs (zn (nI (i + 1)))) (xs (zn (nI (i + 2)))) (xs (zn (nI (i + 3)))) hI
  refine zr_aload_n hB 1 rfl rfl dL_law_646 ?_
  refine zr_aload_n hB 0 rfl rfl dL_law_647 ?_
  refine zr_iload_n hB 3 rfl rfl dL_law_648 ?_
  refine zr_iconst (v := nI 1) hB (by decide) dL_law_649 ?_
  refine zr_iadd hB dL_law_650 ?_
  rw [nI_add i 1]
  refine zr_sld hB hX hbl hbA (vp_in_nI (show i + 1 < Ln by omega) (by omega)) dL_law_651 ?_
  refine zr_aload_n hB 0 rfl rfl dL_law_652 ?_
  refine zr_iload_n hB 3 rfl rfl dL_law_653 ?_
  refine zr_iconst (v := nI 2) hB (by decide) dL_law_654 ?_
  refine zr_iadd hB dL_law_655 ?_
  rw [nI_add i 2]
  refine zr_sld hB hX hbl hbA (vp_in_nI (show i + 2 < Ln by omega) (by omega)) dL_law_656 ?_
  refine zr_aload_n hB 0 rfl rfl dL_law_657 ?_
  refine zr_iload_n hB 3 rfl rfl dL_law_658 ?_
  refine zr_iconst (v := nI 3) hB (by decide) dL_law_659 ?_
  refine zr_iadd hB dL_law_660 ?_
  rw [nI_add i 3]
  refine zr_sld hB hX hbl hbA (vp_in_nI (show i + 3 < Ln by omega) (by omega)) dL_law_661 ?_
  refine zr_callW (st := []) (C := RX7) (w := 0) (As := [.int (xs (zn (nI (i + 1)))), .int (xs (zn (nI (i + 2)))), .int (xs (zn (nI (i + 3))))]) (y0 := (some (.int r), I1, L)) hB (mX7_carry (sK := sK) (sV := sV) hB.2.2.2.2.2.2.2.2.1 n (xs (zn (nI (i + 1)))) (xs (zn (nI (i + 2)))) (xs (zn (nI (i + 3)))) I L (r, I1) h1) (zW_X7 rfl) rfl rfl lm_L_64 q2_X7_carry q3_X7_carry q4_X7 q5_X7_carry qd_X7_carry (by decide) rfl rfl (Nat.le_of_ble_eq_true rfl) hcs dL_law_662 ?_
  refine zr_aload_n hB 2 rfl rfl dL_law_665 ?_
  refine zr_aload_n hB 0 rfl rfl dL_law_666 ?_
  refine zr_iload_n hB 3 rfl rfl dL_law_667 ?_
  refine zr_iconst (v := nI 1) hB (by decide) dL_law_668 ?_
  refine zr_iadd hB dL_law_669 ?_
  rw [nI_add i 1]
  refine zr_sld hB hX hbl hbA (vp_in_nI (show i + 1 < Ln by omega) (by omega)) dL_law_670 ?_
  refine zr_aload_n hB 0 rfl rfl dL_law_671 ?_
  refine zr_iload_n hB 3 rfl rfl dL_law_672 ?_
  refine zr_iconst (v := nI 2) hB (by decide) dL_law_673 ?_
  refine zr_iadd hB dL_law_674 ?_
  rw [nI_add i 2]
  refine zr_sld hB hX hbl hbA (vp_in_nI (show i + 2 < Ln by omega) (by omega)) dL_law_675 ?_
  refine zr_aload_n hB 0 rfl rfl dL_law_676 ?_
  refine zr_iload_n hB 3 rfl rfl dL_law_677 ?_
  refine zr_iconst (v := nI 3) hB (by decide) dL_law_678 ?_
  refine zr_iadd hB dL_law_679 ?_
  rw [nI_add i 3]
  refine zr_sld hB hX hbl hbA (vp_in_nI (show i + 3 < Ln by omega) (by omega)) dL_law_680 ?_
  refine zr_callW (st := [.int r]) (C := RX8) (w := 50) (As := [.int (xs (zn (nI (i + 1)))), .int (xs (zn (nI (i + 2)))), .int (xs (zn (nI (i + 3))))]) (y0 := (some (.int r), I2, L)) hB (mX8_carry (sK := sK) (sV := sV) hB.2.2.2.2.2.2.2.2.1 n (xs (zn (nI (i + 1)))) (xs (zn (nI (i + 2)))) (xs (zn (nI (i + 3)))) I1 L (r, I2) h2) (zW_X8 rfl) rfl rfl lm_L_67 q2_X8_carry q3_X8_carry q4_X8 q5_X8_carry qd_X8_carry (by decide) rfl rfl (Nat.le_of_ble_eq_true rfl) hcs dL_law_681 ?_
  refine zr_ieqT hB rfl (tgt := 1953) (by decide) dL_law_684 ?_
  exact k _ _ hI2
set_option maxRecDepth 100000 in
theorem lc_13 {Inv : zI → Prop} {n : Nat} (hS : zst_reach Inv n) (hB : zB p s m #[Value.ref b] meth c D T ad A sK sV code RL 4 ret) (hX : va_X b Ln xs s s.heap) (hbl : b < s.heap.size) (hbA : ¬ A b) (hLn : Ln ≤ 3072) (hcs : cells ≤ room_1.cells ∧ slots ≤ room_1.slots) {i : Nat} (hi : i + 6 ≤ Ln) {I : zI} {L : zL} (hI : Inv I) (k : ∀ (I2 : zI) (L2 : zL), Inv I2 → zZ p l e room_1 s m #[Value.ref b] below meth c D T ad A 4 cells slots (fun _ : Unit => lw_Z below #[Value.ref b] s) 1953 [(0, .ref b), (1, .ref (ad 0)), (2, .ref (ad 50)), (3, .int (nI i))] [] I2 L2 some (some ())) : zZ p l e room_1 s m #[Value.ref b] below meth c D T ad A 4 cells slots (fun _ : Unit => lw_Z below #[Value.ref b] s) 689 [(0, .ref b), (1, .ref (ad 0)), (2, .ref (ad 50)), (3, .int (nI i))] [] I L some (some ()) := by
  obtain ⟨r, I1, I2, h1, h2, hI2⟩ := hS I L (xs (zn (nI (i + 1)))) (xs (zn (nI (i + 2)))) (xs (zn (nI (i + 3)))) hI
  refine zr_aload_n hB 1 rfl rfl dL_law_689 ?_
  refine zr_aload_n hB 0 rfl rfl dL_law_690 ?_
  refine zr_iload_n hB 3 rfl rfl dL_law_691 ?_
  refine zr_iconst (v := nI 1) hB (by decide) dL_law_692 ?_
  refine zr_iadd hB dL_law_693 ?_
  rw [nI_add i 1]
  refine zr_sld hB hX hbl hbA (vp_in_nI (show i + 1 < Ln by omega) (by omega)) dL_law_694 ?_
  refine zr_aload_n hB 0 rfl rfl dL_law_695 ?_
  refine zr_iload_n hB 3 rfl rfl dL_law_696 ?_
  refine zr_iconst (v := nI 2) hB (by decide) dL_law_697 ?_
  refine zr_iadd hB dL_law_698 ?_
  rw [nI_add i 2]
  refine zr_sld hB hX hbl hbA (vp_in_nI (show i + 2 < Ln by omega) (by omega)) dL_law_699 ?_
  refine zr_aload_n hB 0 rfl rfl dL_law_700 ?_
  refine zr_iload_n hB 3 rfl rfl dL_law_701 ?_
  refine zr_iconst (v := nI 3) hB (by decide) dL_law_702 ?_
  refine zr_iadd hB dL_law_703 ?_
  rw [nI_add i 3]
  refine zr_sld hB hX hbl hbA (vp_in_nI (show i + 3 < Ln by omega) (by omega)) dL_law_704 ?_
  refine zr_callW (st := []) (C := RX7) (w := 0) (As := [.int (xs (zn (nI (i + 1)))), .int (xs (zn (nI (i + 2)))), .int (xs (zn (nI (i + 3))))]) (y0 := (some (.int r), I1, L)) hB (mX7_reach (sK := sK) (sV := sV) hB.2.2.2.2.2.2.2.2.1 n (xs (zn (nI (i + 1)))) (xs (zn (nI (i + 2)))) (xs (zn (nI (i + 3)))) I L (r, I1) h1) (zW_X7 rfl) rfl rfl lm_L_68 q2_X7_reach q3_X7_reach q4_X7 q5_X7_reach qd_X7_reach (by decide) rfl rfl (Nat.le_of_ble_eq_true rfl) hcs dL_law_705 ?_
  refine zr_aload_n hB 2 rfl rfl dL_law_708 ?_
  refine zr_aload_n hB 0 rfl rfl dL_law_709 ?_
  refine zr_iload_n hB 3 rfl rfl dL_law_710 ?_
  refine zr_iconst (v := nI 1) hB (by decide) dL_law_711 ?_
  refine zr_iadd hB dL_law_712 ?_
  rw [nI_add i 1]
  refine zr_sld hB hX hbl hbA (vp_in_nI (show i + 1 < Ln by omega) (by omega)) dL_law_713 ?_
  refine zr_aload_n hB 0 rfl rfl dL_law_714 ?_
  refine zr_iload_n hB 3 rfl rfl dL_law_715 ?_
  refine zr_iconst (v := nI 2) hB (by decide) dL_law_716 ?_
  refine zr_iadd hB dL_law_717 ?_
  rw [nI_add i 2]
  refine zr_sld hB hX hbl hbA (vp_in_nI (show i + 2 < Ln by omega) (by omega)) dL_law_718 ?_
  refine zr_aload_n hB 0 rfl rfl dL_law_719 ?_
  refine zr_iload_n hB 3 rfl rfl dL_law_720 ?_
  refine zr_iconst (v := nI 3) hB (by decide) dL_law_721 ?_
  refine zr_iadd hB dL_law_722 ?_
  rw [nI_add i 3]
  refine zr_sld hB hX hbl hbA (vp_in_nI (show i + 3 < Ln by omega) (by omega)) dL_law_723 ?_
  refine zr_callW (st := [.int r]) (C := RX8) (w := 50) (As := [.int (xs (zn (nI (i + 1)))), .int (xs (zn (nI (i + 2)))), .int (xs (zn (nI (i + 3))))]) (y0 := (some (.int r), I2, L)) hB (mX8_reach (sK := sK) (sV := sV) hB.2.2.2.2.2.2.2.2.1 n (xs (zn (nI (i + 1)))) (xs (zn (nI (i + 2)))) (xs (zn (nI (i + 3)))) I1 L (r, I2) h2) (zW_X8 rfl) rfl rfl lm_L_71 q2_X8_reach q3_X8_reach q4_X8 q5_X8_reach qd_X8_reach (by decide) rfl rfl (Nat.le_of_ble_eq_true rfl) hcs dL_law_724 ?_
  refine zr_ieqT hB rfl (tgt := 1953) (by decide) dL_law_727 ?_
  exact k _ _ hI2
set_option maxRecDepth 100000 in
theorem lc_14 {Inv : zI → Prop} {n : Nat} (hS : zst_lift Inv n) (hB : zB p s m #[Value.ref b] meth c D T ad A sK sV code RL 4 ret) (hX : va_X b Ln xs s s.heap) (hbl : b < s.heap.size) (hbA : ¬ A b) (hLn : Ln ≤ 3072) (hcs : cells ≤ room_1.cells ∧ slots ≤ room_1.slots) {i : Nat} (hi : i + 6 ≤ Ln) {I : zI} {L : zL} (hI : Inv I) (k : ∀ (I2 : zI) (L2 : zL), Inv I2 → zZ p l e room_1 s m #[Value.ref b] below meth c D T ad A 4 cells slots (fun _ : Unit => lw_Z below #[Value.ref b] s) 1953 [(0, .ref b), (1, .ref (ad 0)), (2, .ref (ad 50)), (3, .int (nI i))] [] I2 L2 some (some ())) : zZ p l e room_1 s m #[Value.ref b] below meth c D T ad A 4 cells slots (fun _ : Unit => lw_Z below #[Value.ref b] s) 732 [(0, .ref b), (1, .ref (ad 0)), (2, .ref (ad 50)), (3, .int (nI i))] [] I L some (some ()) := by
  obtain ⟨r, I1, I2, h1, h2, hI2⟩ := hS I L (xs (zn (nI (i + 1)))) (xs (zn (nI (i + 2)))) (xs (zn (nI (i + 3)))) hI
  refine zr_aload_n hB 1 rfl rfl dL_law_732 ?_
  refine zr_aload_n hB 0 rfl rfl dL_law_733 ?_
  refine zr_iload_n hB 3 rfl rfl dL_law_734 ?_
  refine zr_iconst (v := nI 1) hB (by decide) dL_law_735 ?_
  refine zr_iadd hB dL_law_736 ?_
  rw [nI_add i 1]
  refine zr_sld hB hX hbl hbA (vp_in_nI (show i + 1 < Ln by omega) (by omega)) dL_law_737 ?_
  refine zr_aload_n hB 0 rfl rfl dL_law_738 ?_
  refine zr_iload_n hB 3 rfl rfl dL_law_739 ?_
  refine zr_iconst (v := nI 2) hB (by decide) dL_law_740 ?_
  refine zr_iadd hB dL_law_741 ?_
  rw [nI_add i 2]
  refine zr_sld hB hX hbl hbA (vp_in_nI (show i + 2 < Ln by omega) (by omega)) dL_law_742 ?_
  refine zr_aload_n hB 0 rfl rfl dL_law_743 ?_
  refine zr_iload_n hB 3 rfl rfl dL_law_744 ?_
  refine zr_iconst (v := nI 3) hB (by decide) dL_law_745 ?_
  refine zr_iadd hB dL_law_746 ?_
  rw [nI_add i 3]
  refine zr_sld hB hX hbl hbA (vp_in_nI (show i + 3 < Ln by omega) (by omega)) dL_law_747 ?_
  refine zr_callW (st := []) (C := RX7) (w := 0) (As := [.int (xs (zn (nI (i + 1)))), .int (xs (zn (nI (i + 2)))), .int (xs (zn (nI (i + 3))))]) (y0 := (some (.int r), I1, L)) hB (mX7_lift (sK := sK) (sV := sV) hB.2.2.2.2.2.2.2.2.1 (xs (zn (nI (i + 1)))) (xs (zn (nI (i + 2)))) (xs (zn (nI (i + 3)))) I L (r, I1) h1) (zW_X7 rfl) rfl rfl lm_L_72 q2_X7_lift q3_X7_lift q4_X7 q5_X7_lift qd_X7_lift (by decide) rfl rfl (Nat.le_of_ble_eq_true rfl) hcs dL_law_748 ?_
  refine zr_aload_n hB 2 rfl rfl dL_law_751 ?_
  refine zr_aload_n hB 0 rfl rfl dL_law_752 ?_
  refine zr_iload_n hB 3 rfl rfl dL_law_753 ?_
  refine zr_iconst (v := nI 1) hB (by decide) dL_law_754 ?_
  refine zr_iadd hB dL_law_755 ?_
  rw [nI_add i 1]
  refine zr_sld hB hX hbl hbA (vp_in_nI (show i + 1 < Ln by omega) (by omega)) dL_law_756 ?_
  refine zr_aload_n hB 0 rfl rfl dL_law_757 ?_
  refine zr_iload_n hB 3 rfl rfl dL_law_758 ?_
  refine zr_iconst (v := nI 2) hB (by decide) dL_law_759 ?_
  refine zr_iadd hB dL_law_760 ?_
  rw [nI_add i 2]
  refine zr_sld hB hX hbl hbA (vp_in_nI (show i + 2 < Ln by omega) (by omega)) dL_law_761 ?_
  refine zr_aload_n hB 0 rfl rfl dL_law_762 ?_
  refine zr_iload_n hB 3 rfl rfl dL_law_763 ?_
  refine zr_iconst (v := nI 3) hB (by decide) dL_law_764 ?_
  refine zr_iadd hB dL_law_765 ?_
  rw [nI_add i 3]
  refine zr_sld hB hX hbl hbA (vp_in_nI (show i + 3 < Ln by omega) (by omega)) dL_law_766 ?_
  refine zr_callW (st := [.int r]) (C := RX8) (w := 50) (As := [.int (xs (zn (nI (i + 1)))), .int (xs (zn (nI (i + 2)))), .int (xs (zn (nI (i + 3))))]) (y0 := (some (.int r), I2, L)) hB (mX8_lift (sK := sK) (sV := sV) hB.2.2.2.2.2.2.2.2.1 (xs (zn (nI (i + 1)))) (xs (zn (nI (i + 2)))) (xs (zn (nI (i + 3)))) I1 L (r, I2) h2) (zW_X8 rfl) rfl rfl lm_L_75 q2_X8_lift q3_X8_lift q4_X8 q5_X8_lift qd_X8_lift (by decide) rfl rfl (Nat.le_of_ble_eq_true rfl) hcs dL_law_767 ?_
  refine zr_ieqT hB rfl (tgt := 1953) (by decide) dL_law_770 ?_
  exact k _ _ hI2
set_option maxRecDepth 100000 in
theorem lc_15 {Inv : zI → Prop} {n : Nat} (hS : zst_now Inv n) (hB : zB p s m #[Value.ref b] meth c D T ad A sK sV code RL 4 ret) (hX : va_X b Ln xs s s.heap) (hbl : b < s.heap.size) (hbA : ¬ A b) (hLn : Ln ≤ 3072) (hcs : cells ≤ room_1.cells ∧ slots ≤ room_1.slots) {i : Nat} (hi : i + 6 ≤ Ln) {I : zI} {L : zL} (hI : Inv I) (k : ∀ (I2 : zI) (L2 : zL), Inv I2 → zZ p l e room_1 s m #[Value.ref b] below meth c D T ad A 4 cells slots (fun _ : Unit => lw_Z below #[Value.ref b] s) 1953 [(0, .ref b), (1, .ref (ad 0)), (2, .ref (ad 50)), (3, .int (nI i))] [] I2 L2 some (some ())) : zZ p l e room_1 s m #[Value.ref b] below meth c D T ad A 4 cells slots (fun _ : Unit => lw_Z below #[Value.ref b] s) 775 [(0, .ref b), (1, .ref (ad 0)), (2, .ref (ad 50)), (3, .int (nI i))] [] I L some (some ()) := by
  obtain ⟨r, I1, I2, h1, h2, hI2⟩ := hS I L (xs (zn (nI (i + 1)))) hI
  refine zr_aload_n hB 1 rfl rfl dL_law_775 ?_
  refine zr_aload_n hB 0 rfl rfl dL_law_776 ?_
  refine zr_iload_n hB 3 rfl rfl dL_law_777 ?_
  refine zr_iconst (v := nI 1) hB (by decide) dL_law_778 ?_
  refine zr_iadd hB dL_law_779 ?_
  rw [nI_add i 1]
  refine zr_sld hB hX hbl hbA (vp_in_nI (show i + 1 < Ln by omega) (by omega)) dL_law_780 ?_
  refine zr_callW (st := []) (C := RX7) (w := 0) (As := [.int (xs (zn (nI (i + 1))))]) (y0 := (some (.int r), I1, L)) hB (mX7_now (sK := sK) (sV := sV) hB.2.2.2.2.2.2.2.2.1 (xs (zn (nI (i + 1)))) I L (r, I1) h1) (zW_X7 rfl) rfl rfl lm_L_76 q2_X7_now q3_X7_now q4_X7 q5_X7_now qd_X7_now (by decide) rfl rfl (Nat.le_of_ble_eq_true rfl) hcs dL_law_781 ?_
  refine zr_aload_n hB 2 rfl rfl dL_law_784 ?_
  refine zr_aload_n hB 0 rfl rfl dL_law_785 ?_
  refine zr_iload_n hB 3 rfl rfl dL_law_786 ?_
  refine zr_iconst (v := nI 1) hB (by decide) dL_law_787 ?_
  refine zr_iadd hB dL_law_788 ?_
  rw [nI_add i 1]
  refine zr_sld hB hX hbl hbA (vp_in_nI (show i + 1 < Ln by omega) (by omega)) dL_law_789 ?_
  refine zr_callW (st := [.int r]) (C := RX8) (w := 50) (As := [.int (xs (zn (nI (i + 1))))]) (y0 := (some (.int r), I2, L)) hB (mX8_now (sK := sK) (sV := sV) hB.2.2.2.2.2.2.2.2.1 (xs (zn (nI (i + 1)))) I1 L (r, I2) h2) (zW_X8 rfl) rfl rfl lm_L_79 q2_X8_now q3_X8_now q4_X8 q5_X8_now qd_X8_now (by decide) rfl rfl (Nat.le_of_ble_eq_true rfl) hcs dL_law_790 ?_
  refine zr_ieqT hB rfl (tgt := 1953) (by decide) dL_law_793 ?_
  exact k _ _ hI2
set_option maxRecDepth 100000 in
theorem lc_16 {Inv : zI → Prop} {n : Nat} (hS : zst_book Inv n) (hB : zB p s m #[Value.ref b] meth c D T ad A sK sV code RL 4 ret) (hX : va_X b Ln xs s s.heap) (hbl : b < s.heap.size) (hbA : ¬ A b) (hLn : Ln ≤ 3072) (hcs : cells ≤ room_1.cells ∧ slots ≤ room_1.slots) {i : Nat} (hi : i + 6 ≤ Ln) {I : zI} {L : zL} (hI : Inv I) (k : ∀ (I2 : zI) (L2 : zL), Inv I2 → zZ p l e room_1 s m #[Value.ref b] below meth c D T ad A 4 cells slots (fun _ : Unit => lw_Z below #[Value.ref b] s) 1953 [(0, .ref b), (1, .ref (ad 0)), (2, .ref (ad 50)), (3, .int (nI i))] [] I2 L2 some (some ())) : zZ p l e room_1 s m #[Value.ref b] below meth c D T ad A 4 cells slots (fun _ : Unit => lw_Z below #[Value.ref b] s) 798 [(0, .ref b), (1, .ref (ad 0)), (2, .ref (ad 50)), (3, .int (nI i))] [] I L some (some ()) := by
  obtain ⟨r, I1, I2, h1, h2, hI2⟩ := hS I L (xs (zn (nI (i + 1)))) (xs (zn (nI (i + 2)))) hI
  refine zr_aload_n hB 1 rfl rfl dL_law_798 ?_
  refine zr_aload_n hB 0 rfl rfl dL_law_799 ?_
  refine zr_iload_n hB 3 rfl rfl dL_law_800 ?_
  refine zr_iconst (v := nI 1) hB (by decide) dL_law_801 ?_
  refine zr_iadd hB dL_law_802 ?_
  rw [nI_add i 1]
  refine zr_sld hB hX hbl hbA (vp_in_nI (show i + 1 < Ln by omega) (by omega)) dL_law_803 ?_
  refine zr_aload_n hB 0 rfl rfl dL_law_804 ?_
  refine zr_iload_n hB 3 rfl rfl dL_law_805 ?_
  refine zr_iconst (v := nI 2) hB (by decide) dL_law_806 ?_
  refine zr_iadd hB dL_law_807 ?_
  rw [nI_add i 2]
  refine zr_sld hB hX hbl hbA (vp_in_nI (show i + 2 < Ln by omega) (by omega)) dL_law_808 ?_
  refine zr_callW (st := []) (C := RX7) (w := 0) (As := [.int (xs (zn (nI (i + 1)))), .int (xs (zn (nI (i + 2))))]) (y0 := (some (.int r), I1, L)) hB (mX7_book (sK := sK) (sV := sV) hB.2.2.2.2.2.2.2.2.1 (xs (zn (nI (i + 1)))) (xs (zn (nI (i + 2)))) I L (r, I1) h1) (zW_X7 rfl) rfl rfl lm_L_80 q2_X7_book q3_X7_book q4_X7 q5_X7_book qd_X7_book (by decide) rfl rfl (Nat.le_of_ble_eq_true rfl) hcs dL_law_809 ?_
  refine zr_aload_n hB 2 rfl rfl dL_law_812 ?_
  refine zr_aload_n hB 0 rfl rfl dL_law_813 ?_
  refine zr_iload_n hB 3 rfl rfl dL_law_814 ?_
  refine zr_iconst (v := nI 1) hB (by decide) dL_law_815 ?_
  refine zr_iadd hB dL_law_816 ?_
  rw [nI_add i 1]
  refine zr_sld hB hX hbl hbA (vp_in_nI (show i + 1 < Ln by omega) (by omega)) dL_law_817 ?_
  refine zr_aload_n hB 0 rfl rfl dL_law_818 ?_
  refine zr_iload_n hB 3 rfl rfl dL_law_819 ?_
  refine zr_iconst (v := nI 2) hB (by decide) dL_law_820 ?_
  refine zr_iadd hB dL_law_821 ?_
  rw [nI_add i 2]
  refine zr_sld hB hX hbl hbA (vp_in_nI (show i + 2 < Ln by omega) (by omega)) dL_law_822 ?_
  refine zr_callW (st := [.int r]) (C := RX8) (w := 50) (As := [.int (xs (zn (nI (i + 1)))), .int (xs (zn (nI (i + 2))))]) (y0 := (some (.int r), I2, L)) hB (mX8_book (sK := sK) (sV := sV) hB.2.2.2.2.2.2.2.2.1 (xs (zn (nI (i + 1)))) (xs (zn (nI (i + 2)))) I1 L (r, I2) h2) (zW_X8 rfl) rfl rfl lm_L_83 q2_X8_book q3_X8_book q4_X8 q5_X8_book qd_X8_book (by decide) rfl rfl (Nat.le_of_ble_eq_true rfl) hcs dL_law_823 ?_
  refine zr_ieqT hB rfl (tgt := 1953) (by decide) dL_law_826 ?_
  exact k _ _ hI2
set_option maxRecDepth 100000 in
theorem lc_17 {Inv : zI → Prop} {n : Nat} (hS : zst_ways Inv n) (hB : zB p s m #[Value.ref b] meth c D T ad A sK sV code RL 4 ret) (hX : va_X b Ln xs s s.heap) (hbl : b < s.heap.size) (hbA : ¬ A b) (hLn : Ln ≤ 3072) (hcs : cells ≤ room_1.cells ∧ slots ≤ room_1.slots) {i : Nat} (hi : i + 6 ≤ Ln) {I : zI} {L : zL} (hI : Inv I) (k : ∀ (I2 : zI) (L2 : zL), Inv I2 → zZ p l e room_1 s m #[Value.ref b] below meth c D T ad A 4 cells slots (fun _ : Unit => lw_Z below #[Value.ref b] s) 1953 [(0, .ref b), (1, .ref (ad 0)), (2, .ref (ad 50)), (3, .int (nI i))] [] I2 L2 some (some ())) : zZ p l e room_1 s m #[Value.ref b] below meth c D T ad A 4 cells slots (fun _ : Unit => lw_Z below #[Value.ref b] s) 831 [(0, .ref b), (1, .ref (ad 0)), (2, .ref (ad 50)), (3, .int (nI i))] [] I L some (some ()) := by
  obtain ⟨r, I1, I2, h1, h2, hI2⟩ := hS I L (xs (zn (nI (i + 1)))) hI
  refine zr_aload_n hB 1 rfl rfl dL_law_831 ?_
  refine zr_aload_n hB 0 rfl rfl dL_law_832 ?_
  refine zr_iload_n hB 3 rfl rfl dL_law_833 ?_
  refine zr_iconst (v := nI 1) hB (by decide) dL_law_834 ?_
  refine zr_iadd hB dL_law_835 ?_
  rw [nI_add i 1]
  refine zr_sld hB hX hbl hbA (vp_in_nI (show i + 1 < Ln by omega) (by omega)) dL_law_836 ?_
  refine zr_callW (st := []) (C := RX7) (w := 0) (As := [.int (xs (zn (nI (i + 1))))]) (y0 := (some (.long r), I1, L)) hB (mX7_ways (sK := sK) (sV := sV) hB.2.2.2.2.2.2.2.2.1 n (xs (zn (nI (i + 1)))) I L (r, I1) h1) (zW_X7 rfl) rfl rfl lm_L_84 q2_X7_ways q3_X7_ways q4_X7 q5_X7_ways qd_X7_ways (by decide) rfl rfl (Nat.le_of_ble_eq_true rfl) hcs dL_law_837 ?_
  refine zr_aload_n hB 2 rfl rfl dL_law_840 ?_
  refine zr_aload_n hB 0 rfl rfl dL_law_841 ?_
  refine zr_iload_n hB 3 rfl rfl dL_law_842 ?_
  refine zr_iconst (v := nI 1) hB (by decide) dL_law_843 ?_
  refine zr_iadd hB dL_law_844 ?_
  rw [nI_add i 1]
  refine zr_sld hB hX hbl hbA (vp_in_nI (show i + 1 < Ln by omega) (by omega)) dL_law_845 ?_
  refine zr_callW (st := [.long r]) (C := RX8) (w := 50) (As := [.int (xs (zn (nI (i + 1))))]) (y0 := (some (.long r), I2, L)) hB (mX8_ways (sK := sK) (sV := sV) hB.2.2.2.2.2.2.2.2.1 n (xs (zn (nI (i + 1)))) I1 L (r, I2) h2) (zW_X8 rfl) rfl rfl lm_L_88 q2_X8_ways q3_X8_ways q4_X8 q5_X8_ways qd_X8_ways (by decide) rfl rfl (Nat.le_of_ble_eq_true rfl) hcs dL_law_846 ?_
  refine zr_lcmp hB dL_law_849 ?_
  rw [show lg_cmp r r = 0 from zlg_self r]
  refine zr_eq0T hB (tgt := 1953) (by decide) dL_law_850 ?_
  exact k _ _ hI2
set_option maxRecDepth 100000 in
theorem lc_18 {Inv : zI → Prop} {n : Nat} (hS : zst_far Inv n) (hB : zB p s m #[Value.ref b] meth c D T ad A sK sV code RL 4 ret) (hX : va_X b Ln xs s s.heap) (hbl : b < s.heap.size) (hbA : ¬ A b) (hLn : Ln ≤ 3072) (hcs : cells ≤ room_1.cells ∧ slots ≤ room_1.slots) {i : Nat} (hi : i + 6 ≤ Ln) {I : zI} {L : zL} (hI : Inv I) (k : ∀ (I2 : zI) (L2 : zL), Inv I2 → zZ p l e room_1 s m #[Value.ref b] below meth c D T ad A 4 cells slots (fun _ : Unit => lw_Z below #[Value.ref b] s) 1953 [(0, .ref b), (1, .ref (ad 0)), (2, .ref (ad 50)), (3, .int (nI i))] [] I2 L2 some (some ())) : zZ p l e room_1 s m #[Value.ref b] below meth c D T ad A 4 cells slots (fun _ : Unit => lw_Z below #[Value.ref b] s) 855 [(0, .ref b), (1, .ref (ad 0)), (2, .ref (ad 50)), (3, .int (nI i))] [] I L some (some ()) := by
  obtain ⟨r, I1, I2, h1, h2, hI2⟩ := hS I L (xs (zn (nI (i + 1)))) (xs (zn (nI (i + 2)))) hI
  refine zr_aload_n hB 1 rfl rfl dL_law_855 ?_
  refine zr_aload_n hB 0 rfl rfl dL_law_856 ?_
  refine zr_iload_n hB 3 rfl rfl dL_law_857 ?_
  refine zr_iconst (v := nI 1) hB (by decide) dL_law_858 ?_
  refine zr_iadd hB dL_law_859 ?_
  rw [nI_add i 1]
  refine zr_sld hB hX hbl hbA (vp_in_nI (show i + 1 < Ln by omega) (by omega)) dL_law_860 ?_
  refine zr_aload_n hB 0 rfl rfl dL_law_861 ?_
  refine zr_iload_n hB 3 rfl rfl dL_law_862 ?_
  refine zr_iconst (v := nI 2) hB (by decide) dL_law_863 ?_
  refine zr_iadd hB dL_law_864 ?_
  rw [nI_add i 2]
  refine zr_sld hB hX hbl hbA (vp_in_nI (show i + 2 < Ln by omega) (by omega)) dL_law_865 ?_
  refine zr_callW (st := []) (C := RX7) (w := 0) (As := [.int (xs (zn (nI (i + 1)))), .int (xs (zn (nI (i + 2))))]) (y0 := (some (.int r), I1, L)) hB (mX7_far (sK := sK) (sV := sV) hB.2.2.2.2.2.2.2.2.1 n (xs (zn (nI (i + 1)))) (xs (zn (nI (i + 2)))) I L (r, I1) h1) (zW_X7 rfl) rfl rfl lm_L_89 q2_X7_far q3_X7_far q4_X7 q5_X7_far qd_X7_far (by decide) rfl rfl (Nat.le_of_ble_eq_true rfl) hcs dL_law_866 ?_
  refine zr_aload_n hB 2 rfl rfl dL_law_869 ?_
  refine zr_aload_n hB 0 rfl rfl dL_law_870 ?_
  refine zr_iload_n hB 3 rfl rfl dL_law_871 ?_
  refine zr_iconst (v := nI 1) hB (by decide) dL_law_872 ?_
  refine zr_iadd hB dL_law_873 ?_
  rw [nI_add i 1]
  refine zr_sld hB hX hbl hbA (vp_in_nI (show i + 1 < Ln by omega) (by omega)) dL_law_874 ?_
  refine zr_aload_n hB 0 rfl rfl dL_law_875 ?_
  refine zr_iload_n hB 3 rfl rfl dL_law_876 ?_
  refine zr_iconst (v := nI 2) hB (by decide) dL_law_877 ?_
  refine zr_iadd hB dL_law_878 ?_
  rw [nI_add i 2]
  refine zr_sld hB hX hbl hbA (vp_in_nI (show i + 2 < Ln by omega) (by omega)) dL_law_879 ?_
  refine zr_callW (st := [.int r]) (C := RX8) (w := 50) (As := [.int (xs (zn (nI (i + 1)))), .int (xs (zn (nI (i + 2))))]) (y0 := (some (.int r), I2, L)) hB (mX8_far (sK := sK) (sV := sV) hB.2.2.2.2.2.2.2.2.1 n (xs (zn (nI (i + 1)))) (xs (zn (nI (i + 2)))) I1 L (r, I2) h2) (zW_X8 rfl) rfl rfl lm_L_92 q2_X8_far q3_X8_far q4_X8 q5_X8_far qd_X8_far (by decide) rfl rfl (Nat.le_of_ble_eq_true rfl) hcs dL_law_880 ?_
  refine zr_ieqT hB rfl (tgt := 1953) (by decide) dL_law_883 ?_
  exact k _ _ hI2
set_option maxRecDepth 100000 in
theorem lc_19 {Inv : zI → Prop} {n : Nat} (hS : zst_task Inv n) (hB : zB p s m #[Value.ref b] meth c D T ad A sK sV code RL 4 ret) (hX : va_X b Ln xs s s.heap) (hbl : b < s.heap.size) (hbA : ¬ A b) (hLn : Ln ≤ 3072) (hcs : cells ≤ room_1.cells ∧ slots ≤ room_1.slots) {i : Nat} (hi : i + 6 ≤ Ln) {I : zI} {L : zL} (hI : Inv I) (k : ∀ (I2 : zI) (L2 : zL), Inv I2 → zZ p l e room_1 s m #[Value.ref b] below meth c D T ad A 4 cells slots (fun _ : Unit => lw_Z below #[Value.ref b] s) 1953 [(0, .ref b), (1, .ref (ad 0)), (2, .ref (ad 50)), (3, .int (nI i))] [] I2 L2 some (some ())) : zZ p l e room_1 s m #[Value.ref b] below meth c D T ad A 4 cells slots (fun _ : Unit => lw_Z below #[Value.ref b] s) 888 [(0, .ref b), (1, .ref (ad 0)), (2, .ref (ad 50)), (3, .int (nI i))] [] I L some (some ()) := by
  obtain ⟨r, I1, L1, I2, h1, h2, hI2⟩ := hS I L (xs (zn (nI (i + 1)))) (xs (zn (nI (i + 2)))) (xs (zn (nI (i + 3)))) hI
  refine zr_aload_n hB 1 rfl rfl dL_law_888 ?_
  refine zr_aload_n hB 0 rfl rfl dL_law_889 ?_
  refine zr_iload_n hB 3 rfl rfl dL_law_890 ?_
  refine zr_iconst (v := nI 1) hB (by decide) dL_law_891 ?_
  refine zr_iadd hB dL_law_892 ?_
  rw [nI_add i 1]
  refine zr_sld hB hX hbl hbA (vp_in_nI (show i + 1 < Ln by omega) (by omega)) dL_law_893 ?_
  refine zr_aload_n hB 0 rfl rfl dL_law_894 ?_
  refine zr_iload_n hB 3 rfl rfl dL_law_895 ?_
  refine zr_iconst (v := nI 2) hB (by decide) dL_law_896 ?_
  refine zr_iadd hB dL_law_897 ?_
  rw [nI_add i 2]
  refine zr_sld hB hX hbl hbA (vp_in_nI (show i + 2 < Ln by omega) (by omega)) dL_law_898 ?_
  refine zr_aload_n hB 0 rfl rfl dL_law_899 ?_
  refine zr_iload_n hB 3 rfl rfl dL_law_900 ?_
  refine zr_iconst (v := nI 3) hB (by decide) dL_law_901 ?_
  refine zr_iadd hB dL_law_902 ?_
  rw [nI_add i 3]
  refine zr_sld hB hX hbl hbA (vp_in_nI (show i + 3 < Ln by omega) (by omega)) dL_law_903 ?_
  refine zr_callW (st := []) (C := RX7) (w := 0) (As := [.int (xs (zn (nI (i + 1)))), .int (xs (zn (nI (i + 2)))), .int (xs (zn (nI (i + 3))))]) (y0 := (some (.int r), I1, L1)) hB (mX7_task (sK := sK) (sV := sV) hB.2.2.2.2.2.2.2.2.1 n (xs (zn (nI (i + 1)))) (xs (zn (nI (i + 2)))) (xs (zn (nI (i + 3)))) I L (r, I1, L1) h1) (zW_X7 rfl) rfl rfl lm_L_93 q2_X7_task q3_X7_task q4_X7 q5_X7_task qd_X7_task (by decide) rfl rfl (Nat.le_of_ble_eq_true rfl) hcs dL_law_904 ?_
  refine zr_aload_n hB 2 rfl rfl dL_law_907 ?_
  refine zr_aload_n hB 0 rfl rfl dL_law_908 ?_
  refine zr_iload_n hB 3 rfl rfl dL_law_909 ?_
  refine zr_iconst (v := nI 1) hB (by decide) dL_law_910 ?_
  refine zr_iadd hB dL_law_911 ?_
  rw [nI_add i 1]
  refine zr_sld hB hX hbl hbA (vp_in_nI (show i + 1 < Ln by omega) (by omega)) dL_law_912 ?_
  refine zr_aload_n hB 0 rfl rfl dL_law_913 ?_
  refine zr_iload_n hB 3 rfl rfl dL_law_914 ?_
  refine zr_iconst (v := nI 2) hB (by decide) dL_law_915 ?_
  refine zr_iadd hB dL_law_916 ?_
  rw [nI_add i 2]
  refine zr_sld hB hX hbl hbA (vp_in_nI (show i + 2 < Ln by omega) (by omega)) dL_law_917 ?_
  refine zr_aload_n hB 0 rfl rfl dL_law_918 ?_
  refine zr_iload_n hB 3 rfl rfl dL_law_919 ?_
  refine zr_iconst (v := nI 3) hB (by decide) dL_law_920 ?_
  refine zr_iadd hB dL_law_921 ?_
  rw [nI_add i 3]
  refine zr_sld hB hX hbl hbA (vp_in_nI (show i + 3 < Ln by omega) (by omega)) dL_law_922 ?_
  refine zr_callW (st := [.int r]) (C := RX8) (w := 50) (As := [.int (xs (zn (nI (i + 1)))), .int (xs (zn (nI (i + 2)))), .int (xs (zn (nI (i + 3))))]) (y0 := (some (.int r), I2, L1)) hB (mX8_task (sK := sK) (sV := sV) hB.2.2.2.2.2.2.2.2.1 n (xs (zn (nI (i + 1)))) (xs (zn (nI (i + 2)))) (xs (zn (nI (i + 3)))) I1 L1 (r, I2) h2) (zW_X8 rfl) rfl rfl lm_L_96 q2_X8_task q3_X8_task q4_X8 q5_X8_task qd_X8_task (by decide) rfl rfl (Nat.le_of_ble_eq_true rfl) hcs dL_law_923 ?_
  refine zr_ieqT hB rfl (tgt := 1953) (by decide) dL_law_926 ?_
  exact k _ _ hI2
set_option maxRecDepth 100000 in
theorem lc_20 {Inv : zI → Prop} {n : Nat} (hS : zst_who Inv n) (hB : zB p s m #[Value.ref b] meth c D T ad A sK sV code RL 4 ret) (hX : va_X b Ln xs s s.heap) (hbl : b < s.heap.size) (hbA : ¬ A b) (hLn : Ln ≤ 3072) (hcs : cells ≤ room_1.cells ∧ slots ≤ room_1.slots) {i : Nat} (hi : i + 6 ≤ Ln) {I : zI} {L : zL} (hI : Inv I) (k : ∀ (I2 : zI) (L2 : zL), Inv I2 → zZ p l e room_1 s m #[Value.ref b] below meth c D T ad A 4 cells slots (fun _ : Unit => lw_Z below #[Value.ref b] s) 1953 [(0, .ref b), (1, .ref (ad 0)), (2, .ref (ad 50)), (3, .int (nI i))] [] I2 L2 some (some ())) : zZ p l e room_1 s m #[Value.ref b] below meth c D T ad A 4 cells slots (fun _ : Unit => lw_Z below #[Value.ref b] s) 931 [(0, .ref b), (1, .ref (ad 0)), (2, .ref (ad 50)), (3, .int (nI i))] [] I L some (some ()) := by
  obtain ⟨r, I1, L1, I2, h1, h2, hI2⟩ := hS I L (xs (zn (nI (i + 1)))) (xs (zn (nI (i + 2)))) hI
  refine zr_aload_n hB 1 rfl rfl dL_law_931 ?_
  refine zr_aload_n hB 0 rfl rfl dL_law_932 ?_
  refine zr_iload_n hB 3 rfl rfl dL_law_933 ?_
  refine zr_iconst (v := nI 1) hB (by decide) dL_law_934 ?_
  refine zr_iadd hB dL_law_935 ?_
  rw [nI_add i 1]
  refine zr_sld hB hX hbl hbA (vp_in_nI (show i + 1 < Ln by omega) (by omega)) dL_law_936 ?_
  refine zr_aload_n hB 0 rfl rfl dL_law_937 ?_
  refine zr_iload_n hB 3 rfl rfl dL_law_938 ?_
  refine zr_iconst (v := nI 2) hB (by decide) dL_law_939 ?_
  refine zr_iadd hB dL_law_940 ?_
  rw [nI_add i 2]
  refine zr_sld hB hX hbl hbA (vp_in_nI (show i + 2 < Ln by omega) (by omega)) dL_law_941 ?_
  refine zr_callW (st := []) (C := RX7) (w := 0) (As := [.int (xs (zn (nI (i + 1)))), .int (xs (zn (nI (i + 2))))]) (y0 := (some (.int r), I1, L1)) hB (mX7_who (sK := sK) (sV := sV) hB.2.2.2.2.2.2.2.2.1 n (xs (zn (nI (i + 1)))) (xs (zn (nI (i + 2)))) I L (r, I1, L1) h1) (zW_X7 rfl) rfl rfl lm_L_97 q2_X7_who q3_X7_who q4_X7 q5_X7_who qd_X7_who (by decide) rfl rfl (Nat.le_of_ble_eq_true rfl) hcs dL_law_942 ?_
  refine zr_aload_n hB 2 rfl rfl dL_law_945 ?_
  refine zr_aload_n hB 0 rfl rfl dL_law_946 ?_
  refine zr_iload_n hB 3 rfl rfl dL_law_947 ?_
  refine zr_iconst (v := nI 1) hB (by decide) dL_law_948 ?_
  refine zr_iadd hB dL_law_949 ?_
  rw [nI_add i 1]
  refine zr_sld hB hX hbl hbA (vp_in_nI (show i + 1 < Ln by omega) (by omega)) dL_law_950 ?_
  refine zr_aload_n hB 0 rfl rfl dL_law_951 ?_
  refine zr_iload_n hB 3 rfl rfl dL_law_952 ?_
  refine zr_iconst (v := nI 2) hB (by decide) dL_law_953 ?_
  refine zr_iadd hB dL_law_954 ?_
  rw [nI_add i 2]
  refine zr_sld hB hX hbl hbA (vp_in_nI (show i + 2 < Ln by omega) (by omega)) dL_law_955 ?_
  refine zr_callW (st := [.int r]) (C := RX8) (w := 50) (As := [.int (xs (zn (nI (i + 1)))), .int (xs (zn (nI (i + 2))))]) (y0 := (some (.int r), I2, L1)) hB (mX8_who (sK := sK) (sV := sV) hB.2.2.2.2.2.2.2.2.1 n (xs (zn (nI (i + 1)))) (xs (zn (nI (i + 2)))) I1 L1 (r, I2) h2) (zW_X8 rfl) rfl rfl lm_L_100 q2_X8_who q3_X8_who q4_X8 q5_X8_who qd_X8_who (by decide) rfl rfl (Nat.le_of_ble_eq_true rfl) hcs dL_law_956 ?_
  refine zr_ieqT hB rfl (tgt := 1953) (by decide) dL_law_959 ?_
  exact k _ _ hI2
set_option maxRecDepth 100000 in
theorem lc_21 {Inv : zI → Prop} {n : Nat} (hS : zst_can Inv n) (hB : zB p s m #[Value.ref b] meth c D T ad A sK sV code RL 4 ret) (hX : va_X b Ln xs s s.heap) (hbl : b < s.heap.size) (hbA : ¬ A b) (hLn : Ln ≤ 3072) (hcs : cells ≤ room_1.cells ∧ slots ≤ room_1.slots) {i : Nat} (hi : i + 6 ≤ Ln) {I : zI} {L : zL} (hI : Inv I) (k : ∀ (I2 : zI) (L2 : zL), Inv I2 → zZ p l e room_1 s m #[Value.ref b] below meth c D T ad A 4 cells slots (fun _ : Unit => lw_Z below #[Value.ref b] s) 1953 [(0, .ref b), (1, .ref (ad 0)), (2, .ref (ad 50)), (3, .int (nI i))] [] I2 L2 some (some ())) : zZ p l e room_1 s m #[Value.ref b] below meth c D T ad A 4 cells slots (fun _ : Unit => lw_Z below #[Value.ref b] s) 964 [(0, .ref b), (1, .ref (ad 0)), (2, .ref (ad 50)), (3, .int (nI i))] [] I L some (some ()) := by
  obtain ⟨r, I1, L1, I2, h1, h2, hI2⟩ := hS I L (xs (zn (nI (i + 1)))) (xs (zn (nI (i + 2)))) hI
  refine zr_aload_n hB 1 rfl rfl dL_law_964 ?_
  refine zr_aload_n hB 0 rfl rfl dL_law_965 ?_
  refine zr_iload_n hB 3 rfl rfl dL_law_966 ?_
  refine zr_iconst (v := nI 1) hB (by decide) dL_law_967 ?_
  refine zr_iadd hB dL_law_968 ?_
  rw [nI_add i 1]
  refine zr_sld hB hX hbl hbA (vp_in_nI (show i + 1 < Ln by omega) (by omega)) dL_law_969 ?_
  refine zr_aload_n hB 0 rfl rfl dL_law_970 ?_
  refine zr_iload_n hB 3 rfl rfl dL_law_971 ?_
  refine zr_iconst (v := nI 2) hB (by decide) dL_law_972 ?_
  refine zr_iadd hB dL_law_973 ?_
  rw [nI_add i 2]
  refine zr_sld hB hX hbl hbA (vp_in_nI (show i + 2 < Ln by omega) (by omega)) dL_law_974 ?_
  refine zr_callW (st := []) (C := RX7) (w := 0) (As := [.int (xs (zn (nI (i + 1)))), .int (xs (zn (nI (i + 2))))]) (y0 := (some (.int r), I1, L1)) hB (mX7_can (sK := sK) (sV := sV) hB.2.2.2.2.2.2.2.2.1 n (xs (zn (nI (i + 1)))) (xs (zn (nI (i + 2)))) I L (r, I1, L1) h1) (zW_X7 rfl) rfl rfl lm_L_101 q2_X7_can q3_X7_can q4_X7 q5_X7_can qd_X7_can (by decide) rfl rfl (Nat.le_of_ble_eq_true rfl) hcs dL_law_975 ?_
  refine zr_aload_n hB 2 rfl rfl dL_law_978 ?_
  refine zr_aload_n hB 0 rfl rfl dL_law_979 ?_
  refine zr_iload_n hB 3 rfl rfl dL_law_980 ?_
  refine zr_iconst (v := nI 1) hB (by decide) dL_law_981 ?_
  refine zr_iadd hB dL_law_982 ?_
  rw [nI_add i 1]
  refine zr_sld hB hX hbl hbA (vp_in_nI (show i + 1 < Ln by omega) (by omega)) dL_law_983 ?_
  refine zr_aload_n hB 0 rfl rfl dL_law_984 ?_
  refine zr_iload_n hB 3 rfl rfl dL_law_985 ?_
  refine zr_iconst (v := nI 2) hB (by decide) dL_law_986 ?_
  refine zr_iadd hB dL_law_987 ?_
  rw [nI_add i 2]
  refine zr_sld hB hX hbl hbA (vp_in_nI (show i + 2 < Ln by omega) (by omega)) dL_law_988 ?_
  refine zr_callW (st := [.int r]) (C := RX8) (w := 50) (As := [.int (xs (zn (nI (i + 1)))), .int (xs (zn (nI (i + 2))))]) (y0 := (some (.int r), I2, L1)) hB (mX8_can (sK := sK) (sV := sV) hB.2.2.2.2.2.2.2.2.1 n (xs (zn (nI (i + 1)))) (xs (zn (nI (i + 2)))) I1 L1 (r, I2) h2) (zW_X8 rfl) rfl rfl lm_L_104 q2_X8_can q3_X8_can q4_X8 q5_X8_can qd_X8_can (by decide) rfl rfl (Nat.le_of_ble_eq_true rfl) hcs dL_law_989 ?_
  refine zr_ieqT hB rfl (tgt := 1953) (by decide) dL_law_992 ?_
  exact k _ _ hI2
set_option maxRecDepth 100000 in
theorem lc_22 {Inv : zI → Prop} {n : Nat} (hS : zst_above Inv n) (hB : zB p s m #[Value.ref b] meth c D T ad A sK sV code RL 4 ret) (hX : va_X b Ln xs s s.heap) (hbl : b < s.heap.size) (hbA : ¬ A b) (hLn : Ln ≤ 3072) (hcs : cells ≤ room_1.cells ∧ slots ≤ room_1.slots) {i : Nat} (hi : i + 6 ≤ Ln) {I : zI} {L : zL} (hI : Inv I) (k : ∀ (I2 : zI) (L2 : zL), Inv I2 → zZ p l e room_1 s m #[Value.ref b] below meth c D T ad A 4 cells slots (fun _ : Unit => lw_Z below #[Value.ref b] s) 1953 [(0, .ref b), (1, .ref (ad 0)), (2, .ref (ad 50)), (3, .int (nI i))] [] I2 L2 some (some ())) : zZ p l e room_1 s m #[Value.ref b] below meth c D T ad A 4 cells slots (fun _ : Unit => lw_Z below #[Value.ref b] s) 997 [(0, .ref b), (1, .ref (ad 0)), (2, .ref (ad 50)), (3, .int (nI i))] [] I L some (some ()) := by
  obtain ⟨r, I1, L1, I2, h1, h2, hI2⟩ := hS I L (xs (zn (nI (i + 1)))) (xs (zn (nI (i + 2)))) hI
  refine zr_aload_n hB 1 rfl rfl dL_law_997 ?_
  refine zr_aload_n hB 0 rfl rfl dL_law_998 ?_
  refine zr_iload_n hB 3 rfl rfl dL_law_999 ?_
  refine zr_iconst (v := nI 1) hB (by decide) dL_law_1000 ?_
  refine zr_iadd hB dL_law_1001 ?_
  rw [nI_add i 1]
  refine zr_sld hB hX hbl hbA (vp_in_nI (show i + 1 < Ln by omega) (by omega)) dL_law_1002 ?_
  refine zr_aload_n hB 0 rfl rfl dL_law_1003 ?_
  refine zr_iload_n hB 3 rfl rfl dL_law_1004 ?_
  refine zr_iconst (v := nI 2) hB (by decide) dL_law_1005 ?_
  refine zr_iadd hB dL_law_1006 ?_
  rw [nI_add i 2]
  refine zr_sld hB hX hbl hbA (vp_in_nI (show i + 2 < Ln by omega) (by omega)) dL_law_1007 ?_
  refine zr_callW (st := []) (C := RX7) (w := 0) (As := [.int (xs (zn (nI (i + 1)))), .int (xs (zn (nI (i + 2))))]) (y0 := (some (.int r), I1, L1)) hB (mX7_above (sK := sK) (sV := sV) hB.2.2.2.2.2.2.2.2.1 n (xs (zn (nI (i + 1)))) (xs (zn (nI (i + 2)))) I L (r, I1, L1) h1) (zW_X7 rfl) rfl rfl lm_L_105 q2_X7_above q3_X7_above q4_X7 q5_X7_above qd_X7_above (by decide) rfl rfl (Nat.le_of_ble_eq_true rfl) hcs dL_law_1008 ?_
  refine zr_aload_n hB 2 rfl rfl dL_law_1011 ?_
  refine zr_aload_n hB 0 rfl rfl dL_law_1012 ?_
  refine zr_iload_n hB 3 rfl rfl dL_law_1013 ?_
  refine zr_iconst (v := nI 1) hB (by decide) dL_law_1014 ?_
  refine zr_iadd hB dL_law_1015 ?_
  rw [nI_add i 1]
  refine zr_sld hB hX hbl hbA (vp_in_nI (show i + 1 < Ln by omega) (by omega)) dL_law_1016 ?_
  refine zr_aload_n hB 0 rfl rfl dL_law_1017 ?_
  refine zr_iload_n hB 3 rfl rfl dL_law_1018 ?_
  refine zr_iconst (v := nI 2) hB (by decide) dL_law_1019 ?_
  refine zr_iadd hB dL_law_1020 ?_
  rw [nI_add i 2]
  refine zr_sld hB hX hbl hbA (vp_in_nI (show i + 2 < Ln by omega) (by omega)) dL_law_1021 ?_
  refine zr_callW (st := [.int r]) (C := RX8) (w := 50) (As := [.int (xs (zn (nI (i + 1)))), .int (xs (zn (nI (i + 2))))]) (y0 := (some (.int r), I2, L1)) hB (mX8_above_ (sK := sK) (sV := sV) hB.2.2.2.2.2.2.2.2.1 n (xs (zn (nI (i + 1)))) (xs (zn (nI (i + 2)))) I1 L1 (r, I2) h2) (zW_X8 rfl) rfl rfl lm_L_108 q2_X8_above_ q3_X8_above_ q4_X8 q5_X8_above_ qd_X8_above_ (by decide) rfl rfl (Nat.le_of_ble_eq_true rfl) hcs dL_law_1022 ?_
  refine zr_ieqT hB rfl (tgt := 1953) (by decide) dL_law_1025 ?_
  exact k _ _ hI2
set_option maxRecDepth 100000 in
theorem lc_23 {Inv : zI → Prop} {n : Nat} (hS : zst_strong Inv n) (hB : zB p s m #[Value.ref b] meth c D T ad A sK sV code RL 4 ret) (hX : va_X b Ln xs s s.heap) (hbl : b < s.heap.size) (hbA : ¬ A b) (hLn : Ln ≤ 3072) (hcs : cells ≤ room_1.cells ∧ slots ≤ room_1.slots) {i : Nat} (hi : i + 6 ≤ Ln) {I : zI} {L : zL} (hI : Inv I) (k : ∀ (I2 : zI) (L2 : zL), Inv I2 → zZ p l e room_1 s m #[Value.ref b] below meth c D T ad A 4 cells slots (fun _ : Unit => lw_Z below #[Value.ref b] s) 1953 [(0, .ref b), (1, .ref (ad 0)), (2, .ref (ad 50)), (3, .int (nI i))] [] I2 L2 some (some ())) : zZ p l e room_1 s m #[Value.ref b] below meth c D T ad A 4 cells slots (fun _ : Unit => lw_Z below #[Value.ref b] s) 1030 [(0, .ref b), (1, .ref (ad 0)), (2, .ref (ad 50)), (3, .int (nI i))] [] I L some (some ()) := by
  obtain ⟨r, I1, L1, I2, h1, h2, hI2⟩ := hS I L (xs (zn (nI (i + 1)))) (xs (zn (nI (i + 2)))) (xs (zn (nI (i + 3)))) hI
  refine zr_aload_n hB 1 rfl rfl dL_law_1030 ?_
  refine zr_aload_n hB 0 rfl rfl dL_law_1031 ?_
  refine zr_iload_n hB 3 rfl rfl dL_law_1032 ?_
  refine zr_iconst (v := nI 1) hB (by decide) dL_law_1033 ?_
  refine zr_iadd hB dL_law_1034 ?_
  rw [nI_add i 1]
  refine zr_sld hB hX hbl hbA (vp_in_nI (show i + 1 < Ln by omega) (by omega)) dL_law_1035 ?_
  refine zr_aload_n hB 0 rfl rfl dL_law_1036 ?_
  refine zr_iload_n hB 3 rfl rfl dL_law_1037 ?_
  refine zr_iconst (v := nI 2) hB (by decide) dL_law_1038 ?_
  refine zr_iadd hB dL_law_1039 ?_
  rw [nI_add i 2]
  refine zr_sld hB hX hbl hbA (vp_in_nI (show i + 2 < Ln by omega) (by omega)) dL_law_1040 ?_
  refine zr_aload_n hB 0 rfl rfl dL_law_1041 ?_
  refine zr_iload_n hB 3 rfl rfl dL_law_1042 ?_
  refine zr_iconst (v := nI 3) hB (by decide) dL_law_1043 ?_
  refine zr_iadd hB dL_law_1044 ?_
  rw [nI_add i 3]
  refine zr_sld hB hX hbl hbA (vp_in_nI (show i + 3 < Ln by omega) (by omega)) dL_law_1045 ?_
  refine zr_callW (st := []) (C := RX7) (w := 0) (As := [.int (xs (zn (nI (i + 1)))), .int (xs (zn (nI (i + 2)))), .int (xs (zn (nI (i + 3))))]) (y0 := (some (.int r), I1, L1)) hB (mX7_strong (sK := sK) (sV := sV) hB.2.2.2.2.2.2.2.2.1 n (xs (zn (nI (i + 1)))) (xs (zn (nI (i + 2)))) (xs (zn (nI (i + 3)))) I L (r, I1, L1) h1) (zW_X7 rfl) rfl rfl lm_L_109 q2_X7_strong q3_X7_strong q4_X7 q5_X7_strong qd_X7_strong (by decide) rfl rfl (Nat.le_of_ble_eq_true rfl) hcs dL_law_1046 ?_
  refine zr_aload_n hB 2 rfl rfl dL_law_1049 ?_
  refine zr_aload_n hB 0 rfl rfl dL_law_1050 ?_
  refine zr_iload_n hB 3 rfl rfl dL_law_1051 ?_
  refine zr_iconst (v := nI 1) hB (by decide) dL_law_1052 ?_
  refine zr_iadd hB dL_law_1053 ?_
  rw [nI_add i 1]
  refine zr_sld hB hX hbl hbA (vp_in_nI (show i + 1 < Ln by omega) (by omega)) dL_law_1054 ?_
  refine zr_aload_n hB 0 rfl rfl dL_law_1055 ?_
  refine zr_iload_n hB 3 rfl rfl dL_law_1056 ?_
  refine zr_iconst (v := nI 2) hB (by decide) dL_law_1057 ?_
  refine zr_iadd hB dL_law_1058 ?_
  rw [nI_add i 2]
  refine zr_sld hB hX hbl hbA (vp_in_nI (show i + 2 < Ln by omega) (by omega)) dL_law_1059 ?_
  refine zr_aload_n hB 0 rfl rfl dL_law_1060 ?_
  refine zr_iload_n hB 3 rfl rfl dL_law_1061 ?_
  refine zr_iconst (v := nI 3) hB (by decide) dL_law_1062 ?_
  refine zr_iadd hB dL_law_1063 ?_
  rw [nI_add i 3]
  refine zr_sld hB hX hbl hbA (vp_in_nI (show i + 3 < Ln by omega) (by omega)) dL_law_1064 ?_
  refine zr_callW (st := [.int r]) (C := RX8) (w := 50) (As := [.int (xs (zn (nI (i + 1)))), .int (xs (zn (nI (i + 2)))), .int (xs (zn (nI (i + 3))))]) (y0 := (some (.int r), I2, L1)) hB (mX8_strong (sK := sK) (sV := sV) hB.2.2.2.2.2.2.2.2.1 n (xs (zn (nI (i + 1)))) (xs (zn (nI (i + 2)))) (xs (zn (nI (i + 3)))) I1 L1 (r, I2) h2) (zW_X8 rfl) rfl rfl lm_L_112 q2_X8_strong q3_X8_strong q4_X8 q5_X8_strong qd_X8_strong (by decide) rfl rfl (Nat.le_of_ble_eq_true rfl) hcs dL_law_1065 ?_
  refine zr_ieqT hB rfl (tgt := 1953) (by decide) dL_law_1068 ?_
  exact k _ _ hI2
set_option maxRecDepth 100000 in
theorem lc_24 {Inv : zI → Prop} {n : Nat} (hS : zst_kindFor Inv n) (hB : zB p s m #[Value.ref b] meth c D T ad A sK sV code RL 4 ret) (hX : va_X b Ln xs s s.heap) (hbl : b < s.heap.size) (hbA : ¬ A b) (hLn : Ln ≤ 3072) (hcs : cells ≤ room_1.cells ∧ slots ≤ room_1.slots) {i : Nat} (hi : i + 6 ≤ Ln) {I : zI} {L : zL} (hI : Inv I) (k : ∀ (I2 : zI) (L2 : zL), Inv I2 → zZ p l e room_1 s m #[Value.ref b] below meth c D T ad A 4 cells slots (fun _ : Unit => lw_Z below #[Value.ref b] s) 1953 [(0, .ref b), (1, .ref (ad 0)), (2, .ref (ad 50)), (3, .int (nI i))] [] I2 L2 some (some ())) : zZ p l e room_1 s m #[Value.ref b] below meth c D T ad A 4 cells slots (fun _ : Unit => lw_Z below #[Value.ref b] s) 1073 [(0, .ref b), (1, .ref (ad 0)), (2, .ref (ad 50)), (3, .int (nI i))] [] I L some (some ()) := by
  obtain ⟨r, I1, L1, I2, h1, h2, hI2⟩ := hS I L (xs (zn (nI (i + 1)))) (xs (zn (nI (i + 2)))) (xs (zn (nI (i + 3)))) hI
  refine zr_aload_n hB 1 rfl rfl dL_law_1073 ?_
  refine zr_aload_n hB 0 rfl rfl dL_law_1074 ?_
  refine zr_iload_n hB 3 rfl rfl dL_law_1075 ?_
  refine zr_iconst (v := nI 1) hB (by decide) dL_law_1076 ?_
  refine zr_iadd hB dL_law_1077 ?_
  rw [nI_add i 1]
  refine zr_sld hB hX hbl hbA (vp_in_nI (show i + 1 < Ln by omega) (by omega)) dL_law_1078 ?_
  refine zr_aload_n hB 0 rfl rfl dL_law_1079 ?_
  refine zr_iload_n hB 3 rfl rfl dL_law_1080 ?_
  refine zr_iconst (v := nI 2) hB (by decide) dL_law_1081 ?_
  refine zr_iadd hB dL_law_1082 ?_
  rw [nI_add i 2]
  refine zr_sld hB hX hbl hbA (vp_in_nI (show i + 2 < Ln by omega) (by omega)) dL_law_1083 ?_
  refine zr_aload_n hB 0 rfl rfl dL_law_1084 ?_
  refine zr_iload_n hB 3 rfl rfl dL_law_1085 ?_
  refine zr_iconst (v := nI 3) hB (by decide) dL_law_1086 ?_
  refine zr_iadd hB dL_law_1087 ?_
  rw [nI_add i 3]
  refine zr_sld hB hX hbl hbA (vp_in_nI (show i + 3 < Ln by omega) (by omega)) dL_law_1088 ?_
  refine zr_callW (st := []) (C := RX7) (w := 0) (As := [.int (xs (zn (nI (i + 1)))), .int (xs (zn (nI (i + 2)))), .int (xs (zn (nI (i + 3))))]) (y0 := (some (.int r), I1, L1)) hB (mX7_kindFor (sK := sK) (sV := sV) hB.2.2.2.2.2.2.2.2.1 n (xs (zn (nI (i + 1)))) (xs (zn (nI (i + 2)))) (xs (zn (nI (i + 3)))) I L (r, I1, L1) h1) (zW_X7 rfl) rfl rfl lm_L_113 q2_X7_kindFor q3_X7_kindFor q4_X7 q5_X7_kindFor qd_X7_kindFor (by decide) rfl rfl (Nat.le_of_ble_eq_true rfl) hcs dL_law_1089 ?_
  refine zr_aload_n hB 2 rfl rfl dL_law_1092 ?_
  refine zr_aload_n hB 0 rfl rfl dL_law_1093 ?_
  refine zr_iload_n hB 3 rfl rfl dL_law_1094 ?_
  refine zr_iconst (v := nI 1) hB (by decide) dL_law_1095 ?_
  refine zr_iadd hB dL_law_1096 ?_
  rw [nI_add i 1]
  refine zr_sld hB hX hbl hbA (vp_in_nI (show i + 1 < Ln by omega) (by omega)) dL_law_1097 ?_
  refine zr_aload_n hB 0 rfl rfl dL_law_1098 ?_
  refine zr_iload_n hB 3 rfl rfl dL_law_1099 ?_
  refine zr_iconst (v := nI 2) hB (by decide) dL_law_1100 ?_
  refine zr_iadd hB dL_law_1101 ?_
  rw [nI_add i 2]
  refine zr_sld hB hX hbl hbA (vp_in_nI (show i + 2 < Ln by omega) (by omega)) dL_law_1102 ?_
  refine zr_aload_n hB 0 rfl rfl dL_law_1103 ?_
  refine zr_iload_n hB 3 rfl rfl dL_law_1104 ?_
  refine zr_iconst (v := nI 3) hB (by decide) dL_law_1105 ?_
  refine zr_iadd hB dL_law_1106 ?_
  rw [nI_add i 3]
  refine zr_sld hB hX hbl hbA (vp_in_nI (show i + 3 < Ln by omega) (by omega)) dL_law_1107 ?_
  refine zr_callW (st := [.int r]) (C := RX8) (w := 50) (As := [.int (xs (zn (nI (i + 1)))), .int (xs (zn (nI (i + 2)))), .int (xs (zn (nI (i + 3))))]) (y0 := (some (.int r), I2, L1)) hB (mX8_kindFor (sK := sK) (sV := sV) hB.2.2.2.2.2.2.2.2.1 n (xs (zn (nI (i + 1)))) (xs (zn (nI (i + 2)))) (xs (zn (nI (i + 3)))) I1 L1 (r, I2) h2) (zW_X8 rfl) rfl rfl lm_L_116 q2_X8_kindFor q3_X8_kindFor q4_X8 q5_X8_kindFor qd_X8_kindFor (by decide) rfl rfl (Nat.le_of_ble_eq_true rfl) hcs dL_law_1108 ?_
  refine zr_ieqT hB rfl (tgt := 1953) (by decide) dL_law_1111 ?_
  exact k _ _ hI2
set_option maxRecDepth 100000 in
theorem lc_25 {Inv : zI → Prop} {n : Nat} (hS : zst_place Inv n) (hB : zB p s m #[Value.ref b] meth c D T ad A sK sV code RL 4 ret) (hX : va_X b Ln xs s s.heap) (hbl : b < s.heap.size) (hbA : ¬ A b) (hLn : Ln ≤ 3072) (hcs : cells ≤ room_1.cells ∧ slots ≤ room_1.slots) {i : Nat} (hi : i + 6 ≤ Ln) {I : zI} {L : zL} (hI : Inv I) (k : ∀ (I2 : zI) (L2 : zL), Inv I2 → zZ p l e room_1 s m #[Value.ref b] below meth c D T ad A 4 cells slots (fun _ : Unit => lw_Z below #[Value.ref b] s) 1953 [(0, .ref b), (1, .ref (ad 0)), (2, .ref (ad 50)), (3, .int (nI i))] [] I2 L2 some (some ())) : zZ p l e room_1 s m #[Value.ref b] below meth c D T ad A 4 cells slots (fun _ : Unit => lw_Z below #[Value.ref b] s) 1116 [(0, .ref b), (1, .ref (ad 0)), (2, .ref (ad 50)), (3, .int (nI i))] [] I L some (some ()) := by
  obtain ⟨r, I1, L1, I2, h1, h2, hI2⟩ := hS I L (xs (zn (nI (i + 1)))) (xs (zn (nI (i + 2)))) (xs (zn (nI (i + 3)))) hI
  refine zr_aload_n hB 1 rfl rfl dL_law_1116 ?_
  refine zr_aload_n hB 0 rfl rfl dL_law_1117 ?_
  refine zr_iload_n hB 3 rfl rfl dL_law_1118 ?_
  refine zr_iconst (v := nI 1) hB (by decide) dL_law_1119 ?_
  refine zr_iadd hB dL_law_1120 ?_
  rw [nI_add i 1]
  refine zr_sld hB hX hbl hbA (vp_in_nI (show i + 1 < Ln by omega) (by omega)) dL_law_1121 ?_
  refine zr_aload_n hB 0 rfl rfl dL_law_1122 ?_
  refine zr_iload_n hB 3 rfl rfl dL_law_1123 ?_
  refine zr_iconst (v := nI 2) hB (by decide) dL_law_1124 ?_
  refine zr_iadd hB dL_law_1125 ?_
  rw [nI_add i 2]
  refine zr_sld hB hX hbl hbA (vp_in_nI (show i + 2 < Ln by omega) (by omega)) dL_law_1126 ?_
  refine zr_aload_n hB 0 rfl rfl dL_law_1127 ?_
  refine zr_iload_n hB 3 rfl rfl dL_law_1128 ?_
  refine zr_iconst (v := nI 3) hB (by decide) dL_law_1129 ?_
  refine zr_iadd hB dL_law_1130 ?_
  rw [nI_add i 3]
  refine zr_sld hB hX hbl hbA (vp_in_nI (show i + 3 < Ln by omega) (by omega)) dL_law_1131 ?_
  refine zr_callW (st := []) (C := RX7) (w := 0) (As := [.int (xs (zn (nI (i + 1)))), .int (xs (zn (nI (i + 2)))), .int (xs (zn (nI (i + 3))))]) (y0 := (some (.int r), I1, L1)) hB (mX7_place (sK := sK) (sV := sV) hB.2.2.2.2.2.2.2.2.1 n (xs (zn (nI (i + 1)))) (xs (zn (nI (i + 2)))) (xs (zn (nI (i + 3)))) I L (r, I1, L1) h1) (zW_X7 rfl) rfl rfl lm_L_117 q2_X7_place q3_X7_place q4_X7 q5_X7_place qd_X7_place (by decide) rfl rfl (Nat.le_of_ble_eq_true rfl) hcs dL_law_1132 ?_
  refine zr_aload_n hB 2 rfl rfl dL_law_1135 ?_
  refine zr_aload_n hB 0 rfl rfl dL_law_1136 ?_
  refine zr_iload_n hB 3 rfl rfl dL_law_1137 ?_
  refine zr_iconst (v := nI 1) hB (by decide) dL_law_1138 ?_
  refine zr_iadd hB dL_law_1139 ?_
  rw [nI_add i 1]
  refine zr_sld hB hX hbl hbA (vp_in_nI (show i + 1 < Ln by omega) (by omega)) dL_law_1140 ?_
  refine zr_aload_n hB 0 rfl rfl dL_law_1141 ?_
  refine zr_iload_n hB 3 rfl rfl dL_law_1142 ?_
  refine zr_iconst (v := nI 2) hB (by decide) dL_law_1143 ?_
  refine zr_iadd hB dL_law_1144 ?_
  rw [nI_add i 2]
  refine zr_sld hB hX hbl hbA (vp_in_nI (show i + 2 < Ln by omega) (by omega)) dL_law_1145 ?_
  refine zr_aload_n hB 0 rfl rfl dL_law_1146 ?_
  refine zr_iload_n hB 3 rfl rfl dL_law_1147 ?_
  refine zr_iconst (v := nI 3) hB (by decide) dL_law_1148 ?_
  refine zr_iadd hB dL_law_1149 ?_
  rw [nI_add i 3]
  refine zr_sld hB hX hbl hbA (vp_in_nI (show i + 3 < Ln by omega) (by omega)) dL_law_1150 ?_
  refine zr_callW (st := [.int r]) (C := RX8) (w := 50) (As := [.int (xs (zn (nI (i + 1)))), .int (xs (zn (nI (i + 2)))), .int (xs (zn (nI (i + 3))))]) (y0 := (some (.int r), I2, L1)) hB (mX8_place (sK := sK) (sV := sV) hB.2.2.2.2.2.2.2.2.1 n (xs (zn (nI (i + 1)))) (xs (zn (nI (i + 2)))) (xs (zn (nI (i + 3)))) I1 L1 (r, I2) h2) (zW_X8 rfl) rfl rfl lm_L_120 q2_X8_place q3_X8_place q4_X8 q5_X8_place qd_X8_place (by decide) rfl rfl (Nat.le_of_ble_eq_true rfl) hcs dL_law_1151 ?_
  refine zr_ieqT hB rfl (tgt := 1953) (by decide) dL_law_1154 ?_
  exact k _ _ hI2
set_option maxRecDepth 100000 in
theorem lc_26 {Inv : zI → Prop} {n : Nat} (hS : zst_safe Inv n) (hB : zB p s m #[Value.ref b] meth c D T ad A sK sV code RL 4 ret) (hX : va_X b Ln xs s s.heap) (hbl : b < s.heap.size) (hbA : ¬ A b) (hLn : Ln ≤ 3072) (hcs : cells ≤ room_1.cells ∧ slots ≤ room_1.slots) {i : Nat} (hi : i + 6 ≤ Ln) {I : zI} {L : zL} (hI : Inv I) (k : ∀ (I2 : zI) (L2 : zL), Inv I2 → zZ p l e room_1 s m #[Value.ref b] below meth c D T ad A 4 cells slots (fun _ : Unit => lw_Z below #[Value.ref b] s) 1953 [(0, .ref b), (1, .ref (ad 0)), (2, .ref (ad 50)), (3, .int (nI i))] [] I2 L2 some (some ())) : zZ p l e room_1 s m #[Value.ref b] below meth c D T ad A 4 cells slots (fun _ : Unit => lw_Z below #[Value.ref b] s) 1159 [(0, .ref b), (1, .ref (ad 0)), (2, .ref (ad 50)), (3, .int (nI i))] [] I L some (some ()) := by
  obtain ⟨r, h1, h2, hI2⟩ := hS I L  hI
  refine zr_aload_n hB 1 rfl rfl dL_law_1159 ?_
  refine zr_callW (st := []) (C := RX7) (w := 0) (As := []) (y0 := (some (.int r), I, L)) hB (mX7_safe (sK := sK) (sV := sV) hB.2.2.2.2.2.2.2.2.1 n I L r h1) (zW_X7 rfl) rfl rfl lm_L_121 q2_X7_safe q3_X7_safe q4_X7 q5_X7_safe qd_X7_safe (by decide) rfl rfl (Nat.le_of_ble_eq_true rfl) hcs dL_law_1160 ?_
  refine zr_aload_n hB 2 rfl rfl dL_law_1163 ?_
  refine zr_callW (st := [.int r]) (C := RX8) (w := 50) (As := []) (y0 := (some (.int r), I, L)) hB (mX8_safe (sK := sK) (sV := sV) hB.2.2.2.2.2.2.2.2.1 n I L r h2) (zW_X8 rfl) rfl rfl lm_L_125 q2_X8_safe q3_X8_safe q4_X8 q5_X8_safe qd_X8_safe (by decide) rfl rfl (Nat.le_of_ble_eq_true rfl) hcs dL_law_1164 ?_
  refine zr_ieqT hB rfl (tgt := 1953) (by decide) dL_law_1167 ?_
  exact k _ _ hI2
set_option maxRecDepth 100000 in
theorem lc_27 {Inv : zI → Prop} {n : Nat} (hS : zst_selves Inv n) (hB : zB p s m #[Value.ref b] meth c D T ad A sK sV code RL 4 ret) (hX : va_X b Ln xs s s.heap) (hbl : b < s.heap.size) (hbA : ¬ A b) (hLn : Ln ≤ 3072) (hcs : cells ≤ room_1.cells ∧ slots ≤ room_1.slots) {i : Nat} (hi : i + 6 ≤ Ln) {I : zI} {L : zL} (hI : Inv I) (k : ∀ (I2 : zI) (L2 : zL), Inv I2 → zZ p l e room_1 s m #[Value.ref b] below meth c D T ad A 4 cells slots (fun _ : Unit => lw_Z below #[Value.ref b] s) 1953 [(0, .ref b), (1, .ref (ad 0)), (2, .ref (ad 50)), (3, .int (nI i))] [] I2 L2 some (some ())) : zZ p l e room_1 s m #[Value.ref b] below meth c D T ad A 4 cells slots (fun _ : Unit => lw_Z below #[Value.ref b] s) 1172 [(0, .ref b), (1, .ref (ad 0)), (2, .ref (ad 50)), (3, .int (nI i))] [] I L some (some ()) := by
  obtain ⟨r, h1, h2, hI2⟩ := hS I L  hI
  refine zr_aload_n hB 1 rfl rfl dL_law_1172 ?_
  refine zr_callW (st := []) (C := RX7) (w := 0) (As := []) (y0 := (some (.int r), I, L)) hB (mX7_selves (sK := sK) (sV := sV) hB.2.2.2.2.2.2.2.2.1 n I L r h1) (zW_X7 rfl) rfl rfl lm_L_126 q2_X7_selves q3_X7_selves q4_X7 q5_X7_selves qd_X7_selves (by decide) rfl rfl (Nat.le_of_ble_eq_true rfl) hcs dL_law_1173 ?_
  refine zr_aload_n hB 2 rfl rfl dL_law_1176 ?_
  refine zr_callW (st := [.int r]) (C := RX8) (w := 50) (As := []) (y0 := (some (.int r), I, L)) hB (mX8_selves (sK := sK) (sV := sV) hB.2.2.2.2.2.2.2.2.1 n I L r h2) (zW_X8 rfl) rfl rfl lm_L_129 q2_X8_selves q3_X8_selves q4_X8 q5_X8_selves qd_X8_selves (by decide) rfl rfl (Nat.le_of_ble_eq_true rfl) hcs dL_law_1177 ?_
  refine zr_ieqT hB rfl (tgt := 1953) (by decide) dL_law_1180 ?_
  exact k _ _ hI2
set_option maxRecDepth 100000 in
theorem lc_28 {Inv : zI → Prop} {n : Nat} (hS : zst_agree Inv n) (hB : zB p s m #[Value.ref b] meth c D T ad A sK sV code RL 4 ret) (hX : va_X b Ln xs s s.heap) (hbl : b < s.heap.size) (hbA : ¬ A b) (hLn : Ln ≤ 3072) (hcs : cells ≤ room_1.cells ∧ slots ≤ room_1.slots) {i : Nat} (hi : i + 6 ≤ Ln) {I : zI} {L : zL} (hI : Inv I) (k : ∀ (I2 : zI) (L2 : zL), Inv I2 → zZ p l e room_1 s m #[Value.ref b] below meth c D T ad A 4 cells slots (fun _ : Unit => lw_Z below #[Value.ref b] s) 1953 [(0, .ref b), (1, .ref (ad 0)), (2, .ref (ad 50)), (3, .int (nI i))] [] I2 L2 some (some ())) : zZ p l e room_1 s m #[Value.ref b] below meth c D T ad A 4 cells slots (fun _ : Unit => lw_Z below #[Value.ref b] s) 1185 [(0, .ref b), (1, .ref (ad 0)), (2, .ref (ad 50)), (3, .int (nI i))] [] I L some (some ()) := by
  obtain ⟨r, I1, I2, h1, h2, hI2⟩ := hS I L (xs (zn (nI (i + 1)))) (xs (zn (nI (i + 2)))) (xs (zn (nI (i + 3)))) (xs (zn (nI (i + 4)))) hI
  refine zr_aload_n hB 1 rfl rfl dL_law_1185 ?_
  refine zr_aload_n hB 0 rfl rfl dL_law_1186 ?_
  refine zr_iload_n hB 3 rfl rfl dL_law_1187 ?_
  refine zr_iconst (v := nI 1) hB (by decide) dL_law_1188 ?_
  refine zr_iadd hB dL_law_1189 ?_
  rw [nI_add i 1]
  refine zr_sld hB hX hbl hbA (vp_in_nI (show i + 1 < Ln by omega) (by omega)) dL_law_1190 ?_
  refine zr_aload_n hB 0 rfl rfl dL_law_1191 ?_
  refine zr_iload_n hB 3 rfl rfl dL_law_1192 ?_
  refine zr_iconst (v := nI 2) hB (by decide) dL_law_1193 ?_
  refine zr_iadd hB dL_law_1194 ?_
  rw [nI_add i 2]
  refine zr_sld hB hX hbl hbA (vp_in_nI (show i + 2 < Ln by omega) (by omega)) dL_law_1195 ?_
  refine zr_aload_n hB 0 rfl rfl dL_law_1196 ?_
  refine zr_iload_n hB 3 rfl rfl dL_law_1197 ?_
  refine zr_iconst (v := nI 3) hB (by decide) dL_law_1198 ?_
  refine zr_iadd hB dL_law_1199 ?_
  rw [nI_add i 3]
  refine zr_sld hB hX hbl hbA (vp_in_nI (show i + 3 < Ln by omega) (by omega)) dL_law_1200 ?_
  refine zr_aload_n hB 0 rfl rfl dL_law_1201 ?_
  refine zr_iload_n hB 3 rfl rfl dL_law_1202 ?_
  refine zr_iconst (v := nI 4) hB (by decide) dL_law_1203 ?_
  refine zr_iadd hB dL_law_1204 ?_
  rw [nI_add i 4]
  refine zr_sld hB hX hbl hbA (vp_in_nI (show i + 4 < Ln by omega) (by omega)) dL_law_1205 ?_
  refine zr_callW (st := []) (C := RX7) (w := 0) (As := [.int (xs (zn (nI (i + 1)))), .int (xs (zn (nI (i + 2)))), .int (xs (zn (nI (i + 3)))), .int (xs (zn (nI (i + 4))))]) (y0 := (some (.int r), I1, L)) hB (mX7_agree (sK := sK) (sV := sV) hB.2.2.2.2.2.2.2.2.1 (xs (zn (nI (i + 1)))) (xs (zn (nI (i + 2)))) (xs (zn (nI (i + 3)))) (xs (zn (nI (i + 4)))) I L (r, I1) h1) (zW_X7 rfl) rfl rfl lm_L_130 q2_X7_agree q3_X7_agree q4_X7 q5_X7_agree qd_X7_agree (by decide) rfl rfl (Nat.le_of_ble_eq_true rfl) hcs dL_law_1206 ?_
  refine zr_aload_n hB 2 rfl rfl dL_law_1209 ?_
  refine zr_aload_n hB 0 rfl rfl dL_law_1210 ?_
  refine zr_iload_n hB 3 rfl rfl dL_law_1211 ?_
  refine zr_iconst (v := nI 1) hB (by decide) dL_law_1212 ?_
  refine zr_iadd hB dL_law_1213 ?_
  rw [nI_add i 1]
  refine zr_sld hB hX hbl hbA (vp_in_nI (show i + 1 < Ln by omega) (by omega)) dL_law_1214 ?_
  refine zr_aload_n hB 0 rfl rfl dL_law_1215 ?_
  refine zr_iload_n hB 3 rfl rfl dL_law_1216 ?_
  refine zr_iconst (v := nI 2) hB (by decide) dL_law_1217 ?_
  refine zr_iadd hB dL_law_1218 ?_
  rw [nI_add i 2]
  refine zr_sld hB hX hbl hbA (vp_in_nI (show i + 2 < Ln by omega) (by omega)) dL_law_1219 ?_
  refine zr_aload_n hB 0 rfl rfl dL_law_1220 ?_
  refine zr_iload_n hB 3 rfl rfl dL_law_1221 ?_
  refine zr_iconst (v := nI 3) hB (by decide) dL_law_1222 ?_
  refine zr_iadd hB dL_law_1223 ?_
  rw [nI_add i 3]
  refine zr_sld hB hX hbl hbA (vp_in_nI (show i + 3 < Ln by omega) (by omega)) dL_law_1224 ?_
  refine zr_aload_n hB 0 rfl rfl dL_law_1225 ?_
  refine zr_iload_n hB 3 rfl rfl dL_law_1226 ?_
  refine zr_iconst (v := nI 4) hB (by decide) dL_law_1227 ?_
  refine zr_iadd hB dL_law_1228 ?_
  rw [nI_add i 4]
  refine zr_sld hB hX hbl hbA (vp_in_nI (show i + 4 < Ln by omega) (by omega)) dL_law_1229 ?_
  refine zr_callW (st := [.int r]) (C := RX8) (w := 50) (As := [.int (xs (zn (nI (i + 1)))), .int (xs (zn (nI (i + 2)))), .int (xs (zn (nI (i + 3)))), .int (xs (zn (nI (i + 4))))]) (y0 := (some (.int r), I2, L)) hB (mX8_agree (sK := sK) (sV := sV) hB.2.2.2.2.2.2.2.2.1 n (xs (zn (nI (i + 1)))) (xs (zn (nI (i + 2)))) (xs (zn (nI (i + 3)))) (xs (zn (nI (i + 4)))) I1 L (r, I2) h2) (zW_X8 rfl) rfl rfl lm_L_134 q2_X8_agree q3_X8_agree q4_X8 q5_X8_agree qd_X8_agree (by decide) rfl rfl (Nat.le_of_ble_eq_true rfl) hcs dL_law_1230 ?_
  refine zr_ieqT hB rfl (tgt := 1953) (by decide) dL_law_1233 ?_
  exact k _ _ hI2
set_option maxRecDepth 100000 in
theorem lc_29 {Inv : zI → Prop} {n : Nat} (hS : zst_opens Inv n) (hB : zB p s m #[Value.ref b] meth c D T ad A sK sV code RL 4 ret) (hX : va_X b Ln xs s s.heap) (hbl : b < s.heap.size) (hbA : ¬ A b) (hLn : Ln ≤ 3072) (hcs : cells ≤ room_1.cells ∧ slots ≤ room_1.slots) {i : Nat} (hi : i + 6 ≤ Ln) {I : zI} {L : zL} (hI : Inv I) (k : ∀ (I2 : zI) (L2 : zL), Inv I2 → zZ p l e room_1 s m #[Value.ref b] below meth c D T ad A 4 cells slots (fun _ : Unit => lw_Z below #[Value.ref b] s) 1953 [(0, .ref b), (1, .ref (ad 0)), (2, .ref (ad 50)), (3, .int (nI i))] [] I2 L2 some (some ())) : zZ p l e room_1 s m #[Value.ref b] below meth c D T ad A 4 cells slots (fun _ : Unit => lw_Z below #[Value.ref b] s) 1238 [(0, .ref b), (1, .ref (ad 0)), (2, .ref (ad 50)), (3, .int (nI i))] [] I L some (some ()) := by
  obtain ⟨r, I1, L1, I2, h1, h2, hI2⟩ := hS I L (xs (zn (nI (i + 1)))) (xs (zn (nI (i + 2)))) (xs (zn (nI (i + 3)))) hI
  refine zr_aload_n hB 1 rfl rfl dL_law_1238 ?_
  refine zr_aload_n hB 0 rfl rfl dL_law_1239 ?_
  refine zr_iload_n hB 3 rfl rfl dL_law_1240 ?_
  refine zr_iconst (v := nI 1) hB (by decide) dL_law_1241 ?_
  refine zr_iadd hB dL_law_1242 ?_
  rw [nI_add i 1]
  refine zr_sld hB hX hbl hbA (vp_in_nI (show i + 1 < Ln by omega) (by omega)) dL_law_1243 ?_
  refine zr_aload_n hB 0 rfl rfl dL_law_1244 ?_
  refine zr_iload_n hB 3 rfl rfl dL_law_1245 ?_
  refine zr_iconst (v := nI 2) hB (by decide) dL_law_1246 ?_
  refine zr_iadd hB dL_law_1247 ?_
  rw [nI_add i 2]
  refine zr_sld hB hX hbl hbA (vp_in_nI (show i + 2 < Ln by omega) (by omega)) dL_law_1248 ?_
  refine zr_aload_n hB 0 rfl rfl dL_law_1249 ?_
  refine zr_iload_n hB 3 rfl rfl dL_law_1250 ?_
  refine zr_iconst (v := nI 3) hB (by decide) dL_law_1251 ?_
  refine zr_iadd hB dL_law_1252 ?_
  rw [nI_add i 3]
  refine zr_sld hB hX hbl hbA (vp_in_nI (show i + 3 < Ln by omega) (by omega)) dL_law_1253 ?_
  refine zr_callW (st := []) (C := RX7) (w := 0) (As := [.int (xs (zn (nI (i + 1)))), .int (xs (zn (nI (i + 2)))), .int (xs (zn (nI (i + 3))))]) (y0 := (some (.int r), I1, L1)) hB (mX7_opens (sK := sK) (sV := sV) hB.2.2.2.2.2.2.2.2.1 n (xs (zn (nI (i + 1)))) (xs (zn (nI (i + 2)))) (xs (zn (nI (i + 3)))) I L (r, I1, L1) h1) (zW_X7 rfl) rfl rfl lm_L_135 q2_X7_opens q3_X7_opens q4_X7 q5_X7_opens qd_X7_opens (by decide) rfl rfl (Nat.le_of_ble_eq_true rfl) hcs dL_law_1254 ?_
  refine zr_aload_n hB 2 rfl rfl dL_law_1257 ?_
  refine zr_aload_n hB 0 rfl rfl dL_law_1258 ?_
  refine zr_iload_n hB 3 rfl rfl dL_law_1259 ?_
  refine zr_iconst (v := nI 1) hB (by decide) dL_law_1260 ?_
  refine zr_iadd hB dL_law_1261 ?_
  rw [nI_add i 1]
  refine zr_sld hB hX hbl hbA (vp_in_nI (show i + 1 < Ln by omega) (by omega)) dL_law_1262 ?_
  refine zr_aload_n hB 0 rfl rfl dL_law_1263 ?_
  refine zr_iload_n hB 3 rfl rfl dL_law_1264 ?_
  refine zr_iconst (v := nI 2) hB (by decide) dL_law_1265 ?_
  refine zr_iadd hB dL_law_1266 ?_
  rw [nI_add i 2]
  refine zr_sld hB hX hbl hbA (vp_in_nI (show i + 2 < Ln by omega) (by omega)) dL_law_1267 ?_
  refine zr_aload_n hB 0 rfl rfl dL_law_1268 ?_
  refine zr_iload_n hB 3 rfl rfl dL_law_1269 ?_
  refine zr_iconst (v := nI 3) hB (by decide) dL_law_1270 ?_
  refine zr_iadd hB dL_law_1271 ?_
  rw [nI_add i 3]
  refine zr_sld hB hX hbl hbA (vp_in_nI (show i + 3 < Ln by omega) (by omega)) dL_law_1272 ?_
  refine zr_callW (st := [.int r]) (C := RX8) (w := 50) (As := [.int (xs (zn (nI (i + 1)))), .int (xs (zn (nI (i + 2)))), .int (xs (zn (nI (i + 3))))]) (y0 := (some (.int r), I2, L1)) hB (mX8_opens (sK := sK) (sV := sV) hB.2.2.2.2.2.2.2.2.1 n (xs (zn (nI (i + 1)))) (xs (zn (nI (i + 2)))) (xs (zn (nI (i + 3)))) I1 L1 (r, I2) h2) (zW_X8 rfl) rfl rfl lm_L_138 q2_X8_opens q3_X8_opens q4_X8 q5_X8_opens qd_X8_opens (by decide) rfl rfl (Nat.le_of_ble_eq_true rfl) hcs dL_law_1273 ?_
  refine zr_ieqT hB rfl (tgt := 1953) (by decide) dL_law_1276 ?_
  exact k _ _ hI2
set_option maxRecDepth 100000 in
theorem lc_30 {Inv : zI → Prop} {n : Nat} (hS : zst_copies Inv n) (hB : zB p s m #[Value.ref b] meth c D T ad A sK sV code RL 4 ret) (hX : va_X b Ln xs s s.heap) (hbl : b < s.heap.size) (hbA : ¬ A b) (hLn : Ln ≤ 3072) (hcs : cells ≤ room_1.cells ∧ slots ≤ room_1.slots) {i : Nat} (hi : i + 6 ≤ Ln) {I : zI} {L : zL} (hI : Inv I) (k : ∀ (I2 : zI) (L2 : zL), Inv I2 → zZ p l e room_1 s m #[Value.ref b] below meth c D T ad A 4 cells slots (fun _ : Unit => lw_Z below #[Value.ref b] s) 1953 [(0, .ref b), (1, .ref (ad 0)), (2, .ref (ad 50)), (3, .int (nI i))] [] I2 L2 some (some ())) : zZ p l e room_1 s m #[Value.ref b] below meth c D T ad A 4 cells slots (fun _ : Unit => lw_Z below #[Value.ref b] s) 1281 [(0, .ref b), (1, .ref (ad 0)), (2, .ref (ad 50)), (3, .int (nI i))] [] I L some (some ()) := by
  obtain ⟨r, I1, I2, h1, h2, hI2⟩ := hS I L (xs (zn (nI (i + 1)))) (xs (zn (nI (i + 2)))) hI
  refine zr_aload_n hB 1 rfl rfl dL_law_1281 ?_
  refine zr_aload_n hB 0 rfl rfl dL_law_1282 ?_
  refine zr_iload_n hB 3 rfl rfl dL_law_1283 ?_
  refine zr_iconst (v := nI 1) hB (by decide) dL_law_1284 ?_
  refine zr_iadd hB dL_law_1285 ?_
  rw [nI_add i 1]
  refine zr_sld hB hX hbl hbA (vp_in_nI (show i + 1 < Ln by omega) (by omega)) dL_law_1286 ?_
  refine zr_aload_n hB 0 rfl rfl dL_law_1287 ?_
  refine zr_iload_n hB 3 rfl rfl dL_law_1288 ?_
  refine zr_iconst (v := nI 2) hB (by decide) dL_law_1289 ?_
  refine zr_iadd hB dL_law_1290 ?_
  rw [nI_add i 2]
  refine zr_sld hB hX hbl hbA (vp_in_nI (show i + 2 < Ln by omega) (by omega)) dL_law_1291 ?_
  refine zr_callW (st := []) (C := RX7) (w := 0) (As := [.int (xs (zn (nI (i + 1)))), .int (xs (zn (nI (i + 2))))]) (y0 := (some (.long r), I1, L)) hB (mX7_copies (sK := sK) (sV := sV) hB.2.2.2.2.2.2.2.2.1 n (xs (zn (nI (i + 1)))) (xs (zn (nI (i + 2)))) I L (r, I1) h1) (zW_X7 rfl) rfl rfl lm_L_139 q2_X7_copies q3_X7_copies q4_X7 q5_X7_copies qd_X7_copies (by decide) rfl rfl (Nat.le_of_ble_eq_true rfl) hcs dL_law_1292 ?_
  refine zr_aload_n hB 2 rfl rfl dL_law_1295 ?_
  refine zr_aload_n hB 0 rfl rfl dL_law_1296 ?_
  refine zr_iload_n hB 3 rfl rfl dL_law_1297 ?_
  refine zr_iconst (v := nI 1) hB (by decide) dL_law_1298 ?_
  refine zr_iadd hB dL_law_1299 ?_
  rw [nI_add i 1]
  refine zr_sld hB hX hbl hbA (vp_in_nI (show i + 1 < Ln by omega) (by omega)) dL_law_1300 ?_
  refine zr_aload_n hB 0 rfl rfl dL_law_1301 ?_
  refine zr_iload_n hB 3 rfl rfl dL_law_1302 ?_
  refine zr_iconst (v := nI 2) hB (by decide) dL_law_1303 ?_
  refine zr_iadd hB dL_law_1304 ?_
  rw [nI_add i 2]
  refine zr_sld hB hX hbl hbA (vp_in_nI (show i + 2 < Ln by omega) (by omega)) dL_law_1305 ?_
  refine zr_callW (st := [.long r]) (C := RX8) (w := 50) (As := [.int (xs (zn (nI (i + 1)))), .int (xs (zn (nI (i + 2))))]) (y0 := (some (.long r), I2, L)) hB (mX8_copies (sK := sK) (sV := sV) hB.2.2.2.2.2.2.2.2.1 n (xs (zn (nI (i + 1)))) (xs (zn (nI (i + 2)))) I1 L (r, I2) h2) (zW_X8 rfl) rfl rfl lm_L_143 q2_X8_copies q3_X8_copies q4_X8 q5_X8_copies qd_X8_copies (by decide) rfl rfl (Nat.le_of_ble_eq_true rfl) hcs dL_law_1306 ?_
  refine zr_lcmp hB dL_law_1309 ?_
  rw [show lg_cmp r r = 0 from zlg_self r]
  refine zr_eq0T hB (tgt := 1953) (by decide) dL_law_1310 ?_
  exact k _ _ hI2
set_option maxRecDepth 100000 in
theorem lc_31 {Inv : zI → Prop} {n : Nat} (hS : zst_all Inv n) (hB : zB p s m #[Value.ref b] meth c D T ad A sK sV code RL 4 ret) (hX : va_X b Ln xs s s.heap) (hbl : b < s.heap.size) (hbA : ¬ A b) (hLn : Ln ≤ 3072) (hcs : cells ≤ room_1.cells ∧ slots ≤ room_1.slots) {i : Nat} (hi : i + 6 ≤ Ln) {I : zI} {L : zL} (hI : Inv I) (k : ∀ (I2 : zI) (L2 : zL), Inv I2 → zZ p l e room_1 s m #[Value.ref b] below meth c D T ad A 4 cells slots (fun _ : Unit => lw_Z below #[Value.ref b] s) 1953 [(0, .ref b), (1, .ref (ad 0)), (2, .ref (ad 50)), (3, .int (nI i))] [] I2 L2 some (some ())) : zZ p l e room_1 s m #[Value.ref b] below meth c D T ad A 4 cells slots (fun _ : Unit => lw_Z below #[Value.ref b] s) 1315 [(0, .ref b), (1, .ref (ad 0)), (2, .ref (ad 50)), (3, .int (nI i))] [] I L some (some ()) := by
  obtain ⟨r, I1, I2, h1, h2, hI2⟩ := hS I L (xs (zn (nI (i + 1)))) (xs (zn (nI (i + 2)))) hI
  refine zr_aload_n hB 1 rfl rfl dL_law_1315 ?_
  refine zr_aload_n hB 0 rfl rfl dL_law_1316 ?_
  refine zr_iload_n hB 3 rfl rfl dL_law_1317 ?_
  refine zr_iconst (v := nI 1) hB (by decide) dL_law_1318 ?_
  refine zr_iadd hB dL_law_1319 ?_
  rw [nI_add i 1]
  refine zr_sld hB hX hbl hbA (vp_in_nI (show i + 1 < Ln by omega) (by omega)) dL_law_1320 ?_
  refine zr_aload_n hB 0 rfl rfl dL_law_1321 ?_
  refine zr_iload_n hB 3 rfl rfl dL_law_1322 ?_
  refine zr_iconst (v := nI 2) hB (by decide) dL_law_1323 ?_
  refine zr_iadd hB dL_law_1324 ?_
  rw [nI_add i 2]
  refine zr_sld hB hX hbl hbA (vp_in_nI (show i + 2 < Ln by omega) (by omega)) dL_law_1325 ?_
  refine zr_callW (st := []) (C := RX7) (w := 0) (As := [.int (xs (zn (nI (i + 1)))), .int (xs (zn (nI (i + 2))))]) (y0 := (some (.long r), I1, L)) hB (mX7_all (sK := sK) (sV := sV) hB.2.2.2.2.2.2.2.2.1 n (xs (zn (nI (i + 1)))) (xs (zn (nI (i + 2)))) I L (r, I1) h1) (zW_X7 rfl) rfl rfl lm_L_144 q2_X7_all q3_X7_all q4_X7 q5_X7_all qd_X7_all (by decide) rfl rfl (Nat.le_of_ble_eq_true rfl) hcs dL_law_1326 ?_
  refine zr_aload_n hB 2 rfl rfl dL_law_1329 ?_
  refine zr_aload_n hB 0 rfl rfl dL_law_1330 ?_
  refine zr_iload_n hB 3 rfl rfl dL_law_1331 ?_
  refine zr_iconst (v := nI 1) hB (by decide) dL_law_1332 ?_
  refine zr_iadd hB dL_law_1333 ?_
  rw [nI_add i 1]
  refine zr_sld hB hX hbl hbA (vp_in_nI (show i + 1 < Ln by omega) (by omega)) dL_law_1334 ?_
  refine zr_aload_n hB 0 rfl rfl dL_law_1335 ?_
  refine zr_iload_n hB 3 rfl rfl dL_law_1336 ?_
  refine zr_iconst (v := nI 2) hB (by decide) dL_law_1337 ?_
  refine zr_iadd hB dL_law_1338 ?_
  rw [nI_add i 2]
  refine zr_sld hB hX hbl hbA (vp_in_nI (show i + 2 < Ln by omega) (by omega)) dL_law_1339 ?_
  refine zr_callW (st := [.long r]) (C := RX8) (w := 50) (As := [.int (xs (zn (nI (i + 1)))), .int (xs (zn (nI (i + 2))))]) (y0 := (some (.long r), I2, L)) hB (mX8_all (sK := sK) (sV := sV) hB.2.2.2.2.2.2.2.2.1 n (xs (zn (nI (i + 1)))) (xs (zn (nI (i + 2)))) I1 L (r, I2) h2) (zW_X8 rfl) rfl rfl lm_L_147 q2_X8_all q3_X8_all q4_X8 q5_X8_all qd_X8_all (by decide) rfl rfl (Nat.le_of_ble_eq_true rfl) hcs dL_law_1340 ?_
  refine zr_lcmp hB dL_law_1343 ?_
  rw [show lg_cmp r r = 0 from zlg_self r]
  refine zr_eq0T hB (tgt := 1953) (by decide) dL_law_1344 ?_
  exact k _ _ hI2
set_option maxRecDepth 100000 in
theorem lc_32 {Inv : zI → Prop} {n : Nat} (hS : zst_weight Inv n) (hB : zB p s m #[Value.ref b] meth c D T ad A sK sV code RL 4 ret) (hX : va_X b Ln xs s s.heap) (hbl : b < s.heap.size) (hbA : ¬ A b) (hLn : Ln ≤ 3072) (hcs : cells ≤ room_1.cells ∧ slots ≤ room_1.slots) {i : Nat} (hi : i + 6 ≤ Ln) {I : zI} {L : zL} (hI : Inv I) (k : ∀ (I2 : zI) (L2 : zL), Inv I2 → zZ p l e room_1 s m #[Value.ref b] below meth c D T ad A 4 cells slots (fun _ : Unit => lw_Z below #[Value.ref b] s) 1953 [(0, .ref b), (1, .ref (ad 0)), (2, .ref (ad 50)), (3, .int (nI i))] [] I2 L2 some (some ())) : zZ p l e room_1 s m #[Value.ref b] below meth c D T ad A 4 cells slots (fun _ : Unit => lw_Z below #[Value.ref b] s) 1349 [(0, .ref b), (1, .ref (ad 0)), (2, .ref (ad 50)), (3, .int (nI i))] [] I L some (some ()) := by
  obtain ⟨r, I1, I2, h1, h2, hI2⟩ := hS I L (xs (zn (nI (i + 1)))) (xs (zn (nI (i + 2)))) (xs (zn (nI (i + 3)))) hI
  refine zr_aload_n hB 1 rfl rfl dL_law_1349 ?_
  refine zr_aload_n hB 0 rfl rfl dL_law_1350 ?_
  refine zr_iload_n hB 3 rfl rfl dL_law_1351 ?_
  refine zr_iconst (v := nI 1) hB (by decide) dL_law_1352 ?_
  refine zr_iadd hB dL_law_1353 ?_
  rw [nI_add i 1]
  refine zr_sld hB hX hbl hbA (vp_in_nI (show i + 1 < Ln by omega) (by omega)) dL_law_1354 ?_
  refine zr_aload_n hB 0 rfl rfl dL_law_1355 ?_
  refine zr_iload_n hB 3 rfl rfl dL_law_1356 ?_
  refine zr_iconst (v := nI 2) hB (by decide) dL_law_1357 ?_
  refine zr_iadd hB dL_law_1358 ?_
  rw [nI_add i 2]
  refine zr_sld hB hX hbl hbA (vp_in_nI (show i + 2 < Ln by omega) (by omega)) dL_law_1359 ?_
  refine zr_aload_n hB 0 rfl rfl dL_law_1360 ?_
  refine zr_iload_n hB 3 rfl rfl dL_law_1361 ?_
  refine zr_iconst (v := nI 3) hB (by decide) dL_law_1362 ?_
  refine zr_iadd hB dL_law_1363 ?_
  rw [nI_add i 3]
  refine zr_sld hB hX hbl hbA (vp_in_nI (show i + 3 < Ln by omega) (by omega)) dL_law_1364 ?_
  refine zr_callW (st := []) (C := RX7) (w := 0) (As := [.int (xs (zn (nI (i + 1)))), .int (xs (zn (nI (i + 2)))), .int (xs (zn (nI (i + 3))))]) (y0 := (some (.long r), I1, L)) hB (mX7_weight (sK := sK) (sV := sV) hB.2.2.2.2.2.2.2.2.1 n (xs (zn (nI (i + 1)))) (xs (zn (nI (i + 2)))) (xs (zn (nI (i + 3)))) I L (r, I1) h1) (zW_X7 rfl) rfl rfl lm_L_148 q2_X7_weight q3_X7_weight q4_X7 q5_X7_weight qd_X7_weight (by decide) rfl rfl (Nat.le_of_ble_eq_true rfl) hcs dL_law_1365 ?_
  refine zr_aload_n hB 2 rfl rfl dL_law_1368 ?_
  refine zr_aload_n hB 0 rfl rfl dL_law_1369 ?_
  refine zr_iload_n hB 3 rfl rfl dL_law_1370 ?_
  refine zr_iconst (v := nI 1) hB (by decide) dL_law_1371 ?_
  refine zr_iadd hB dL_law_1372 ?_
  rw [nI_add i 1]
  refine zr_sld hB hX hbl hbA (vp_in_nI (show i + 1 < Ln by omega) (by omega)) dL_law_1373 ?_
  refine zr_aload_n hB 0 rfl rfl dL_law_1374 ?_
  refine zr_iload_n hB 3 rfl rfl dL_law_1375 ?_
  refine zr_iconst (v := nI 2) hB (by decide) dL_law_1376 ?_
  refine zr_iadd hB dL_law_1377 ?_
  rw [nI_add i 2]
  refine zr_sld hB hX hbl hbA (vp_in_nI (show i + 2 < Ln by omega) (by omega)) dL_law_1378 ?_
  refine zr_aload_n hB 0 rfl rfl dL_law_1379 ?_
  refine zr_iload_n hB 3 rfl rfl dL_law_1380 ?_
  refine zr_iconst (v := nI 3) hB (by decide) dL_law_1381 ?_
  refine zr_iadd hB dL_law_1382 ?_
  rw [nI_add i 3]
  refine zr_sld hB hX hbl hbA (vp_in_nI (show i + 3 < Ln by omega) (by omega)) dL_law_1383 ?_
  refine zr_callW (st := [.long r]) (C := RX8) (w := 50) (As := [.int (xs (zn (nI (i + 1)))), .int (xs (zn (nI (i + 2)))), .int (xs (zn (nI (i + 3))))]) (y0 := (some (.long r), I2, L)) hB (mX8_weight (sK := sK) (sV := sV) hB.2.2.2.2.2.2.2.2.1 n (xs (zn (nI (i + 1)))) (xs (zn (nI (i + 2)))) (xs (zn (nI (i + 3)))) I1 L (r, I2) h2) (zW_X8 rfl) rfl rfl lm_L_152 q2_X8_weight q3_X8_weight q4_X8 q5_X8_weight qd_X8_weight (by decide) rfl rfl (Nat.le_of_ble_eq_true rfl) hcs dL_law_1384 ?_
  refine zr_lcmp hB dL_law_1387 ?_
  rw [show lg_cmp r r = 0 from zlg_self r]
  refine zr_eq0T hB (tgt := 1953) (by decide) dL_law_1388 ?_
  exact k _ _ hI2
set_option maxRecDepth 100000 in
theorem lc_33 {Inv : zI → Prop} {n : Nat} (hS : zst_deep Inv n) (hB : zB p s m #[Value.ref b] meth c D T ad A sK sV code RL 4 ret) (hX : va_X b Ln xs s s.heap) (hbl : b < s.heap.size) (hbA : ¬ A b) (hLn : Ln ≤ 3072) (hcs : cells ≤ room_1.cells ∧ slots ≤ room_1.slots) {i : Nat} (hi : i + 6 ≤ Ln) {I : zI} {L : zL} (hI : Inv I) (k : ∀ (I2 : zI) (L2 : zL), Inv I2 → zZ p l e room_1 s m #[Value.ref b] below meth c D T ad A 4 cells slots (fun _ : Unit => lw_Z below #[Value.ref b] s) 1953 [(0, .ref b), (1, .ref (ad 0)), (2, .ref (ad 50)), (3, .int (nI i))] [] I2 L2 some (some ())) : zZ p l e room_1 s m #[Value.ref b] below meth c D T ad A 4 cells slots (fun _ : Unit => lw_Z below #[Value.ref b] s) 1393 [(0, .ref b), (1, .ref (ad 0)), (2, .ref (ad 50)), (3, .int (nI i))] [] I L some (some ()) := by
  obtain ⟨r, I1, I2, h1, h2, hI2⟩ := hS I L (xs (zn (nI (i + 1)))) (xs (zn (nI (i + 2)))) hI
  refine zr_aload_n hB 1 rfl rfl dL_law_1393 ?_
  refine zr_aload_n hB 0 rfl rfl dL_law_1394 ?_
  refine zr_iload_n hB 3 rfl rfl dL_law_1395 ?_
  refine zr_iconst (v := nI 1) hB (by decide) dL_law_1396 ?_
  refine zr_iadd hB dL_law_1397 ?_
  rw [nI_add i 1]
  refine zr_sld hB hX hbl hbA (vp_in_nI (show i + 1 < Ln by omega) (by omega)) dL_law_1398 ?_
  refine zr_aload_n hB 0 rfl rfl dL_law_1399 ?_
  refine zr_iload_n hB 3 rfl rfl dL_law_1400 ?_
  refine zr_iconst (v := nI 2) hB (by decide) dL_law_1401 ?_
  refine zr_iadd hB dL_law_1402 ?_
  rw [nI_add i 2]
  refine zr_sld hB hX hbl hbA (vp_in_nI (show i + 2 < Ln by omega) (by omega)) dL_law_1403 ?_
  refine zr_callW (st := []) (C := RX7) (w := 0) (As := [.int (xs (zn (nI (i + 1)))), .int (xs (zn (nI (i + 2))))]) (y0 := (some (.int r), I1, L)) hB (mX7_deep (sK := sK) (sV := sV) hB.2.2.2.2.2.2.2.2.1 n (xs (zn (nI (i + 1)))) (xs (zn (nI (i + 2)))) I L (r, I1) h1) (zW_X7 rfl) rfl rfl lm_L_153 q2_X7_deep q3_X7_deep q4_X7 q5_X7_deep qd_X7_deep (by decide) rfl rfl (Nat.le_of_ble_eq_true rfl) hcs dL_law_1404 ?_
  refine zr_aload_n hB 2 rfl rfl dL_law_1407 ?_
  refine zr_aload_n hB 0 rfl rfl dL_law_1408 ?_
  refine zr_iload_n hB 3 rfl rfl dL_law_1409 ?_
  refine zr_iconst (v := nI 1) hB (by decide) dL_law_1410 ?_
  refine zr_iadd hB dL_law_1411 ?_
  rw [nI_add i 1]
  refine zr_sld hB hX hbl hbA (vp_in_nI (show i + 1 < Ln by omega) (by omega)) dL_law_1412 ?_
  refine zr_aload_n hB 0 rfl rfl dL_law_1413 ?_
  refine zr_iload_n hB 3 rfl rfl dL_law_1414 ?_
  refine zr_iconst (v := nI 2) hB (by decide) dL_law_1415 ?_
  refine zr_iadd hB dL_law_1416 ?_
  rw [nI_add i 2]
  refine zr_sld hB hX hbl hbA (vp_in_nI (show i + 2 < Ln by omega) (by omega)) dL_law_1417 ?_
  refine zr_callW (st := [.int r]) (C := RX8) (w := 50) (As := [.int (xs (zn (nI (i + 1)))), .int (xs (zn (nI (i + 2))))]) (y0 := (some (.int r), I2, L)) hB (mX8_deep (sK := sK) (sV := sV) hB.2.2.2.2.2.2.2.2.1 n (xs (zn (nI (i + 1)))) (xs (zn (nI (i + 2)))) I1 L (r, I2) h2) (zW_X8 rfl) rfl rfl lm_L_156 q2_X8_deep q3_X8_deep q4_X8 q5_X8_deep qd_X8_deep (by decide) rfl rfl (Nat.le_of_ble_eq_true rfl) hcs dL_law_1418 ?_
  refine zr_ieqT hB rfl (tgt := 1953) (by decide) dL_law_1421 ?_
  exact k _ _ hI2
set_option maxRecDepth 100000 in
theorem lc_34 {Inv : zI → Prop} {n : Nat} (hS : zst_days Inv n) (hB : zB p s m #[Value.ref b] meth c D T ad A sK sV code RL 4 ret) (hX : va_X b Ln xs s s.heap) (hbl : b < s.heap.size) (hbA : ¬ A b) (hLn : Ln ≤ 3072) (hcs : cells ≤ room_1.cells ∧ slots ≤ room_1.slots) {i : Nat} (hi : i + 6 ≤ Ln) {I : zI} {L : zL} (hI : Inv I) (k : ∀ (I2 : zI) (L2 : zL), Inv I2 → zZ p l e room_1 s m #[Value.ref b] below meth c D T ad A 4 cells slots (fun _ : Unit => lw_Z below #[Value.ref b] s) 1953 [(0, .ref b), (1, .ref (ad 0)), (2, .ref (ad 50)), (3, .int (nI i))] [] I2 L2 some (some ())) : zZ p l e room_1 s m #[Value.ref b] below meth c D T ad A 4 cells slots (fun _ : Unit => lw_Z below #[Value.ref b] s) 1426 [(0, .ref b), (1, .ref (ad 0)), (2, .ref (ad 50)), (3, .int (nI i))] [] I L some (some ()) := by
  obtain ⟨r, I1, I2, h1, h2, hI2⟩ := hS I L (xs (zn (nI (i + 1)))) hI
  refine zr_aload_n hB 1 rfl rfl dL_law_1426 ?_
  refine zr_aload_n hB 0 rfl rfl dL_law_1427 ?_
  refine zr_iload_n hB 3 rfl rfl dL_law_1428 ?_
  refine zr_iconst (v := nI 1) hB (by decide) dL_law_1429 ?_
  refine zr_iadd hB dL_law_1430 ?_
  rw [nI_add i 1]
  refine zr_sld hB hX hbl hbA (vp_in_nI (show i + 1 < Ln by omega) (by omega)) dL_law_1431 ?_
  refine zr_callW (st := []) (C := RX7) (w := 0) (As := [.int (xs (zn (nI (i + 1))))]) (y0 := (some (.int r), I1, L)) hB (mX7_days (sK := sK) (sV := sV) hB.2.2.2.2.2.2.2.2.1 n (xs (zn (nI (i + 1)))) I L (r, I1) h1) (zW_X7 rfl) rfl rfl lm_L_157 q2_X7_days q3_X7_days q4_X7 q5_X7_days qd_X7_days (by decide) rfl rfl (Nat.le_of_ble_eq_true rfl) hcs dL_law_1432 ?_
  refine zr_aload_n hB 2 rfl rfl dL_law_1435 ?_
  refine zr_aload_n hB 0 rfl rfl dL_law_1436 ?_
  refine zr_iload_n hB 3 rfl rfl dL_law_1437 ?_
  refine zr_iconst (v := nI 1) hB (by decide) dL_law_1438 ?_
  refine zr_iadd hB dL_law_1439 ?_
  rw [nI_add i 1]
  refine zr_sld hB hX hbl hbA (vp_in_nI (show i + 1 < Ln by omega) (by omega)) dL_law_1440 ?_
  refine zr_callW (st := [.int r]) (C := RX8) (w := 50) (As := [.int (xs (zn (nI (i + 1))))]) (y0 := (some (.int r), I2, L)) hB (mX8_days (sK := sK) (sV := sV) hB.2.2.2.2.2.2.2.2.1 n (xs (zn (nI (i + 1)))) I1 L (r, I2) h2) (zW_X8 rfl) rfl rfl lm_L_160 q2_X8_days q3_X8_days q4_X8 q5_X8_days qd_X8_days (by decide) rfl rfl (Nat.le_of_ble_eq_true rfl) hcs dL_law_1441 ?_
  refine zr_ieqT hB rfl (tgt := 1953) (by decide) dL_law_1444 ?_
  exact k _ _ hI2
set_option maxRecDepth 100000 in
theorem lc_35 {Inv : zI → Prop} {n : Nat} (hS : zst_ahead Inv n) (hB : zB p s m #[Value.ref b] meth c D T ad A sK sV code RL 4 ret) (hX : va_X b Ln xs s s.heap) (hbl : b < s.heap.size) (hbA : ¬ A b) (hLn : Ln ≤ 3072) (hcs : cells ≤ room_1.cells ∧ slots ≤ room_1.slots) {i : Nat} (hi : i + 6 ≤ Ln) {I : zI} {L : zL} (hI : Inv I) (k : ∀ (I2 : zI) (L2 : zL), Inv I2 → zZ p l e room_1 s m #[Value.ref b] below meth c D T ad A 4 cells slots (fun _ : Unit => lw_Z below #[Value.ref b] s) 1953 [(0, .ref b), (1, .ref (ad 0)), (2, .ref (ad 50)), (3, .int (nI i))] [] I2 L2 some (some ())) : zZ p l e room_1 s m #[Value.ref b] below meth c D T ad A 4 cells slots (fun _ : Unit => lw_Z below #[Value.ref b] s) 1449 [(0, .ref b), (1, .ref (ad 0)), (2, .ref (ad 50)), (3, .int (nI i))] [] I L some (some ()) := by
  obtain ⟨r, I1, I2, h1, h2, hI2⟩ := hS I L (xs (zn (nI (i + 1)))) (xs (zn (nI (i + 2)))) hI
  refine zr_aload_n hB 1 rfl rfl dL_law_1449 ?_
  refine zr_aload_n hB 0 rfl rfl dL_law_1450 ?_
  refine zr_iload_n hB 3 rfl rfl dL_law_1451 ?_
  refine zr_iconst (v := nI 1) hB (by decide) dL_law_1452 ?_
  refine zr_iadd hB dL_law_1453 ?_
  rw [nI_add i 1]
  refine zr_sld hB hX hbl hbA (vp_in_nI (show i + 1 < Ln by omega) (by omega)) dL_law_1454 ?_
  refine zr_aload_n hB 0 rfl rfl dL_law_1455 ?_
  refine zr_iload_n hB 3 rfl rfl dL_law_1456 ?_
  refine zr_iconst (v := nI 2) hB (by decide) dL_law_1457 ?_
  refine zr_iadd hB dL_law_1458 ?_
  rw [nI_add i 2]
  refine zr_sld hB hX hbl hbA (vp_in_nI (show i + 2 < Ln by omega) (by omega)) dL_law_1459 ?_
  refine zr_callW (st := []) (C := RX7) (w := 0) (As := [.int (xs (zn (nI (i + 1)))), .int (xs (zn (nI (i + 2))))]) (y0 := (some (.int r), I1, L)) hB (mX7_ahead (sK := sK) (sV := sV) hB.2.2.2.2.2.2.2.2.1 n (xs (zn (nI (i + 1)))) (xs (zn (nI (i + 2)))) I L (r, I1) h1) (zW_X7 rfl) rfl rfl lm_L_161 q2_X7_ahead q3_X7_ahead q4_X7 q5_X7_ahead qd_X7_ahead (by decide) rfl rfl (Nat.le_of_ble_eq_true rfl) hcs dL_law_1460 ?_
  refine zr_aload_n hB 2 rfl rfl dL_law_1463 ?_
  refine zr_aload_n hB 0 rfl rfl dL_law_1464 ?_
  refine zr_iload_n hB 3 rfl rfl dL_law_1465 ?_
  refine zr_iconst (v := nI 1) hB (by decide) dL_law_1466 ?_
  refine zr_iadd hB dL_law_1467 ?_
  rw [nI_add i 1]
  refine zr_sld hB hX hbl hbA (vp_in_nI (show i + 1 < Ln by omega) (by omega)) dL_law_1468 ?_
  refine zr_aload_n hB 0 rfl rfl dL_law_1469 ?_
  refine zr_iload_n hB 3 rfl rfl dL_law_1470 ?_
  refine zr_iconst (v := nI 2) hB (by decide) dL_law_1471 ?_
  refine zr_iadd hB dL_law_1472 ?_
  rw [nI_add i 2]
  refine zr_sld hB hX hbl hbA (vp_in_nI (show i + 2 < Ln by omega) (by omega)) dL_law_1473 ?_
  refine zr_callW (st := [.int r]) (C := RX8) (w := 50) (As := [.int (xs (zn (nI (i + 1)))), .int (xs (zn (nI (i + 2))))]) (y0 := (some (.int r), I2, L)) hB (mX8_ahead (sK := sK) (sV := sV) hB.2.2.2.2.2.2.2.2.1 n (xs (zn (nI (i + 1)))) (xs (zn (nI (i + 2)))) I1 L (r, I2) h2) (zW_X8 rfl) rfl rfl lm_L_164 q2_X8_ahead q3_X8_ahead q4_X8 q5_X8_ahead qd_X8_ahead (by decide) rfl rfl (Nat.le_of_ble_eq_true rfl) hcs dL_law_1474 ?_
  refine zr_ieqT hB rfl (tgt := 1953) (by decide) dL_law_1477 ?_
  exact k _ _ hI2
set_option maxRecDepth 100000 in
theorem lc_36 {Inv : zI → Prop} {n : Nat} (hS : zst_when Inv n) (hB : zB p s m #[Value.ref b] meth c D T ad A sK sV code RL 4 ret) (hX : va_X b Ln xs s s.heap) (hbl : b < s.heap.size) (hbA : ¬ A b) (hLn : Ln ≤ 3072) (hcs : cells ≤ room_1.cells ∧ slots ≤ room_1.slots) {i : Nat} (hi : i + 6 ≤ Ln) {I : zI} {L : zL} (hI : Inv I) (k : ∀ (I2 : zI) (L2 : zL), Inv I2 → zZ p l e room_1 s m #[Value.ref b] below meth c D T ad A 4 cells slots (fun _ : Unit => lw_Z below #[Value.ref b] s) 1953 [(0, .ref b), (1, .ref (ad 0)), (2, .ref (ad 50)), (3, .int (nI i))] [] I2 L2 some (some ())) : zZ p l e room_1 s m #[Value.ref b] below meth c D T ad A 4 cells slots (fun _ : Unit => lw_Z below #[Value.ref b] s) 1482 [(0, .ref b), (1, .ref (ad 0)), (2, .ref (ad 50)), (3, .int (nI i))] [] I L some (some ()) := by
  obtain ⟨r, I1, I2, h1, h2, hI2⟩ := hS I L (xs (zn (nI (i + 1)))) (xs (zn (nI (i + 2)))) hI
  refine zr_aload_n hB 1 rfl rfl dL_law_1482 ?_
  refine zr_aload_n hB 0 rfl rfl dL_law_1483 ?_
  refine zr_iload_n hB 3 rfl rfl dL_law_1484 ?_
  refine zr_iconst (v := nI 1) hB (by decide) dL_law_1485 ?_
  refine zr_iadd hB dL_law_1486 ?_
  rw [nI_add i 1]
  refine zr_sld hB hX hbl hbA (vp_in_nI (show i + 1 < Ln by omega) (by omega)) dL_law_1487 ?_
  refine zr_aload_n hB 0 rfl rfl dL_law_1488 ?_
  refine zr_iload_n hB 3 rfl rfl dL_law_1489 ?_
  refine zr_iconst (v := nI 2) hB (by decide) dL_law_1490 ?_
  refine zr_iadd hB dL_law_1491 ?_
  rw [nI_add i 2]
  refine zr_sld hB hX hbl hbA (vp_in_nI (show i + 2 < Ln by omega) (by omega)) dL_law_1492 ?_
  refine zr_callW (st := []) (C := RX7) (w := 0) (As := [.int (xs (zn (nI (i + 1)))), .int (xs (zn (nI (i + 2))))]) (y0 := (some (.int r), I1, L)) hB (mX7_when (sK := sK) (sV := sV) hB.2.2.2.2.2.2.2.2.1 n (xs (zn (nI (i + 1)))) (xs (zn (nI (i + 2)))) I L (r, I1) h1) (zW_X7 rfl) rfl rfl lm_L_165 q2_X7_when q3_X7_when q4_X7 q5_X7_when qd_X7_when (by decide) rfl rfl (Nat.le_of_ble_eq_true rfl) hcs dL_law_1493 ?_
  refine zr_aload_n hB 2 rfl rfl dL_law_1496 ?_
  refine zr_aload_n hB 0 rfl rfl dL_law_1497 ?_
  refine zr_iload_n hB 3 rfl rfl dL_law_1498 ?_
  refine zr_iconst (v := nI 1) hB (by decide) dL_law_1499 ?_
  refine zr_iadd hB dL_law_1500 ?_
  rw [nI_add i 1]
  refine zr_sld hB hX hbl hbA (vp_in_nI (show i + 1 < Ln by omega) (by omega)) dL_law_1501 ?_
  refine zr_aload_n hB 0 rfl rfl dL_law_1502 ?_
  refine zr_iload_n hB 3 rfl rfl dL_law_1503 ?_
  refine zr_iconst (v := nI 2) hB (by decide) dL_law_1504 ?_
  refine zr_iadd hB dL_law_1505 ?_
  rw [nI_add i 2]
  refine zr_sld hB hX hbl hbA (vp_in_nI (show i + 2 < Ln by omega) (by omega)) dL_law_1506 ?_
  refine zr_callW (st := [.int r]) (C := RX8) (w := 50) (As := [.int (xs (zn (nI (i + 1)))), .int (xs (zn (nI (i + 2))))]) (y0 := (some (.int r), I2, L)) hB (mX8_when (sK := sK) (sV := sV) hB.2.2.2.2.2.2.2.2.1 n (xs (zn (nI (i + 1)))) (xs (zn (nI (i + 2)))) I1 L (r, I2) h2) (zW_X8 rfl) rfl rfl lm_L_168 q2_X8_when q3_X8_when q4_X8 q5_X8_when qd_X8_when (by decide) rfl rfl (Nat.le_of_ble_eq_true rfl) hcs dL_law_1507 ?_
  refine zr_ieqT hB rfl (tgt := 1953) (by decide) dL_law_1510 ?_
  exact k _ _ hI2
set_option maxRecDepth 100000 in
theorem lc_37 {Inv : zI → Prop} {n : Nat} (hS : zst_seed Inv n) (hB : zB p s m #[Value.ref b] meth c D T ad A sK sV code RL 4 ret) (hX : va_X b Ln xs s s.heap) (hbl : b < s.heap.size) (hbA : ¬ A b) (hLn : Ln ≤ 3072) (hcs : cells ≤ room_1.cells ∧ slots ≤ room_1.slots) {i : Nat} (hi : i + 6 ≤ Ln) {I : zI} {L : zL} (hI : Inv I) (k : ∀ (I2 : zI) (L2 : zL), Inv I2 → zZ p l e room_1 s m #[Value.ref b] below meth c D T ad A 4 cells slots (fun _ : Unit => lw_Z below #[Value.ref b] s) 1953 [(0, .ref b), (1, .ref (ad 0)), (2, .ref (ad 50)), (3, .int (nI i))] [] I2 L2 some (some ())) : zZ p l e room_1 s m #[Value.ref b] below meth c D T ad A 4 cells slots (fun _ : Unit => lw_Z below #[Value.ref b] s) 1515 [(0, .ref b), (1, .ref (ad 0)), (2, .ref (ad 50)), (3, .int (nI i))] [] I L some (some ()) := by
  obtain ⟨r, I1, I2, h1, h2, hI2⟩ := hS I L (xs (zn (nI (i + 1)))) hI
  refine zr_aload_n hB 1 rfl rfl dL_law_1515 ?_
  refine zr_aload_n hB 0 rfl rfl dL_law_1516 ?_
  refine zr_iload_n hB 3 rfl rfl dL_law_1517 ?_
  refine zr_iconst (v := nI 1) hB (by decide) dL_law_1518 ?_
  refine zr_iadd hB dL_law_1519 ?_
  rw [nI_add i 1]
  refine zr_sld hB hX hbl hbA (vp_in_nI (show i + 1 < Ln by omega) (by omega)) dL_law_1520 ?_
  refine zr_callW (st := []) (C := RX7) (w := 0) (As := [.int (xs (zn (nI (i + 1))))]) (y0 := (some (.int r), I1, L)) hB (mX7_seed (sK := sK) (sV := sV) hB.2.2.2.2.2.2.2.2.1 (xs (zn (nI (i + 1)))) I L (r, I1) h1) (zW_X7 rfl) rfl rfl lm_L_169 q2_X7_seed q3_X7_seed q4_X7 q5_X7_seed qd_X7_seed (by decide) rfl rfl (Nat.le_of_ble_eq_true rfl) hcs dL_law_1521 ?_
  refine zr_aload_n hB 2 rfl rfl dL_law_1524 ?_
  refine zr_aload_n hB 0 rfl rfl dL_law_1525 ?_
  refine zr_iload_n hB 3 rfl rfl dL_law_1526 ?_
  refine zr_iconst (v := nI 1) hB (by decide) dL_law_1527 ?_
  refine zr_iadd hB dL_law_1528 ?_
  rw [nI_add i 1]
  refine zr_sld hB hX hbl hbA (vp_in_nI (show i + 1 < Ln by omega) (by omega)) dL_law_1529 ?_
  refine zr_callW (st := [.int r]) (C := RX8) (w := 50) (As := [.int (xs (zn (nI (i + 1))))]) (y0 := (some (.int r), I2, L)) hB (mX8_seed (sK := sK) (sV := sV) hB.2.2.2.2.2.2.2.2.1 (xs (zn (nI (i + 1)))) I1 L (r, I2) h2) (zW_X8 rfl) rfl rfl lm_L_172 q2_X8_seed q3_X8_seed q4_X8 q5_X8_seed qd_X8_seed (by decide) rfl rfl (Nat.le_of_ble_eq_true rfl) hcs dL_law_1530 ?_
  refine zr_ieqT hB rfl (tgt := 1953) (by decide) dL_law_1533 ?_
  exact k _ _ hI2
set_option maxRecDepth 100000 in
theorem lc_38 {Inv : zI → Prop} {n : Nat} (hS : zst_feed Inv n) (hB : zB p s m #[Value.ref b] meth c D T ad A sK sV code RL 4 ret) (hX : va_X b Ln xs s s.heap) (hbl : b < s.heap.size) (hbA : ¬ A b) (hLn : Ln ≤ 3072) (hcs : cells ≤ room_1.cells ∧ slots ≤ room_1.slots) {i : Nat} (hi : i + 6 ≤ Ln) {I : zI} {L : zL} (hI : Inv I) (k : ∀ (I2 : zI) (L2 : zL), Inv I2 → zZ p l e room_1 s m #[Value.ref b] below meth c D T ad A 4 cells slots (fun _ : Unit => lw_Z below #[Value.ref b] s) 1953 [(0, .ref b), (1, .ref (ad 0)), (2, .ref (ad 50)), (3, .int (nI i))] [] I2 L2 some (some ())) : zZ p l e room_1 s m #[Value.ref b] below meth c D T ad A 4 cells slots (fun _ : Unit => lw_Z below #[Value.ref b] s) 1538 [(0, .ref b), (1, .ref (ad 0)), (2, .ref (ad 50)), (3, .int (nI i))] [] I L some (some ()) := by
  obtain ⟨r, I1, I2, h1, h2, hI2⟩ := hS I L (xs (zn (nI (i + 1)))) (xs (zn (nI (i + 2)))) hI
  refine zr_aload_n hB 1 rfl rfl dL_law_1538 ?_
  refine zr_aload_n hB 0 rfl rfl dL_law_1539 ?_
  refine zr_iload_n hB 3 rfl rfl dL_law_1540 ?_
  refine zr_iconst (v := nI 1) hB (by decide) dL_law_1541 ?_
  refine zr_iadd hB dL_law_1542 ?_
  rw [nI_add i 1]
  refine zr_sld hB hX hbl hbA (vp_in_nI (show i + 1 < Ln by omega) (by omega)) dL_law_1543 ?_
  refine zr_aload_n hB 0 rfl rfl dL_law_1544 ?_
  refine zr_iload_n hB 3 rfl rfl dL_law_1545 ?_
  refine zr_iconst (v := nI 2) hB (by decide) dL_law_1546 ?_
  refine zr_iadd hB dL_law_1547 ?_
  rw [nI_add i 2]
  refine zr_sld hB hX hbl hbA (vp_in_nI (show i + 2 < Ln by omega) (by omega)) dL_law_1548 ?_
  refine zr_callW (st := []) (C := RX7) (w := 0) (As := [.int (xs (zn (nI (i + 1)))), .int (xs (zn (nI (i + 2))))]) (y0 := (some (.int r), I1, L)) hB (mX7_feed (sK := sK) (sV := sV) hB.2.2.2.2.2.2.2.2.1 n (xs (zn (nI (i + 1)))) (xs (zn (nI (i + 2)))) I L (r, I1) h1) (zW_X7 rfl) rfl rfl lm_L_173 q2_X7_feed q3_X7_feed q4_X7 q5_X7_feed qd_X7_feed (by decide) rfl rfl (Nat.le_of_ble_eq_true rfl) hcs dL_law_1549 ?_
  refine zr_aload_n hB 2 rfl rfl dL_law_1552 ?_
  refine zr_aload_n hB 0 rfl rfl dL_law_1553 ?_
  refine zr_iload_n hB 3 rfl rfl dL_law_1554 ?_
  refine zr_iconst (v := nI 1) hB (by decide) dL_law_1555 ?_
  refine zr_iadd hB dL_law_1556 ?_
  rw [nI_add i 1]
  refine zr_sld hB hX hbl hbA (vp_in_nI (show i + 1 < Ln by omega) (by omega)) dL_law_1557 ?_
  refine zr_aload_n hB 0 rfl rfl dL_law_1558 ?_
  refine zr_iload_n hB 3 rfl rfl dL_law_1559 ?_
  refine zr_iconst (v := nI 2) hB (by decide) dL_law_1560 ?_
  refine zr_iadd hB dL_law_1561 ?_
  rw [nI_add i 2]
  refine zr_sld hB hX hbl hbA (vp_in_nI (show i + 2 < Ln by omega) (by omega)) dL_law_1562 ?_
  refine zr_callW (st := [.int r]) (C := RX8) (w := 50) (As := [.int (xs (zn (nI (i + 1)))), .int (xs (zn (nI (i + 2))))]) (y0 := (some (.int r), I2, L)) hB (mX8_feed (sK := sK) (sV := sV) hB.2.2.2.2.2.2.2.2.1 n (xs (zn (nI (i + 1)))) (xs (zn (nI (i + 2)))) I1 L (r, I2) h2) (zW_X8 rfl) rfl rfl lm_L_176 q2_X8_feed q3_X8_feed q4_X8 q5_X8_feed qd_X8_feed (by decide) rfl rfl (Nat.le_of_ble_eq_true rfl) hcs dL_law_1563 ?_
  refine zr_ieqT hB rfl (tgt := 1953) (by decide) dL_law_1566 ?_
  exact k _ _ hI2
set_option maxRecDepth 100000 in
theorem lc_39 {Inv : zI → Prop} {n : Nat} (hS : zst_wipe Inv n) (hB : zB p s m #[Value.ref b] meth c D T ad A sK sV code RL 4 ret) (hX : va_X b Ln xs s s.heap) (hbl : b < s.heap.size) (hbA : ¬ A b) (hLn : Ln ≤ 3072) (hcs : cells ≤ room_1.cells ∧ slots ≤ room_1.slots) {i : Nat} (hi : i + 6 ≤ Ln) {I : zI} {L : zL} (hI : Inv I) (k : ∀ (I2 : zI) (L2 : zL), Inv I2 → zZ p l e room_1 s m #[Value.ref b] below meth c D T ad A 4 cells slots (fun _ : Unit => lw_Z below #[Value.ref b] s) 1953 [(0, .ref b), (1, .ref (ad 0)), (2, .ref (ad 50)), (3, .int (nI i))] [] I2 L2 some (some ())) : zZ p l e room_1 s m #[Value.ref b] below meth c D T ad A 4 cells slots (fun _ : Unit => lw_Z below #[Value.ref b] s) 1571 [(0, .ref b), (1, .ref (ad 0)), (2, .ref (ad 50)), (3, .int (nI i))] [] I L some (some ()) := by
  obtain ⟨r, I1, I2, h1, h2, hI2⟩ := hS I L  hI
  refine zr_aload_n hB 1 rfl rfl dL_law_1571 ?_
  refine zr_callW (st := []) (C := RX7) (w := 0) (As := []) (y0 := (some (.int r), I1, L)) hB (mX7_wipe (sK := sK) (sV := sV) hB.2.2.2.2.2.2.2.2.1  I L (r, I1) h1) (zW_X7 rfl) rfl rfl lm_L_177 q2_X7_wipe q3_X7_wipe q4_X7 q5_X7_wipe qd_X7_wipe (by decide) rfl rfl (Nat.le_of_ble_eq_true rfl) hcs dL_law_1572 ?_
  refine zr_aload_n hB 2 rfl rfl dL_law_1575 ?_
  refine zr_callW (st := [.int r]) (C := RX8) (w := 50) (As := []) (y0 := (some (.int r), I2, L)) hB (mX8_wipe (sK := sK) (sV := sV) hB.2.2.2.2.2.2.2.2.1  I1 L (r, I2) h2) (zW_X8 rfl) rfl rfl lm_L_180 q2_X8_wipe q3_X8_wipe q4_X8 q5_X8_wipe qd_X8_wipe (by decide) rfl rfl (Nat.le_of_ble_eq_true rfl) hcs dL_law_1576 ?_
  refine zr_ieqT hB rfl (tgt := 1953) (by decide) dL_law_1579 ?_
  exact k _ _ hI2
set_option maxRecDepth 100000 in
theorem lc_40 {Inv : zI → Prop} {n : Nat} (hS : zst_text Inv n) (hB : zB p s m #[Value.ref b] meth c D T ad A sK sV code RL 4 ret) (hX : va_X b Ln xs s s.heap) (hbl : b < s.heap.size) (hbA : ¬ A b) (hLn : Ln ≤ 3072) (hcs : cells ≤ room_1.cells ∧ slots ≤ room_1.slots) {i : Nat} (hi : i + 6 ≤ Ln) {I : zI} {L : zL} (hI : Inv I) (k : ∀ (I2 : zI) (L2 : zL), Inv I2 → zZ p l e room_1 s m #[Value.ref b] below meth c D T ad A 4 cells slots (fun _ : Unit => lw_Z below #[Value.ref b] s) 1953 [(0, .ref b), (1, .ref (ad 0)), (2, .ref (ad 50)), (3, .int (nI i))] [] I2 L2 some (some ())) : zZ p l e room_1 s m #[Value.ref b] below meth c D T ad A 4 cells slots (fun _ : Unit => lw_Z below #[Value.ref b] s) 1584 [(0, .ref b), (1, .ref (ad 0)), (2, .ref (ad 50)), (3, .int (nI i))] [] I L some (some ()) := by
  obtain ⟨r, I1, I2, h1, h2, hI2⟩ := hS I L  hI
  refine zr_aload_n hB 1 rfl rfl dL_law_1584 ?_
  refine zr_callW (st := []) (C := RX7) (w := 0) (As := []) (y0 := (some (.int r), I1, L)) hB (mX7_text (sK := sK) (sV := sV) hB.2.2.2.2.2.2.2.2.1 n I L (r, I1) h1) (zW_X7 rfl) rfl rfl lm_L_181 q2_X7_text q3_X7_text q4_X7 q5_X7_text qd_X7_text (by decide) rfl rfl (Nat.le_of_ble_eq_true rfl) hcs dL_law_1585 ?_
  refine zr_aload_n hB 2 rfl rfl dL_law_1588 ?_
  refine zr_callW (st := [.int r]) (C := RX8) (w := 50) (As := []) (y0 := (some (.int r), I2, L)) hB (mX8_text (sK := sK) (sV := sV) hB.2.2.2.2.2.2.2.2.1 n I1 L (r, I2) h2) (zW_X8 rfl) rfl rfl lm_L_184 q2_X8_text q3_X8_text q4_X8 q5_X8_text qd_X8_text (by decide) rfl rfl (Nat.le_of_ble_eq_true rfl) hcs dL_law_1589 ?_
  refine zr_ieqT hB rfl (tgt := 1953) (by decide) dL_law_1592 ?_
  exact k _ _ hI2
set_option maxRecDepth 100000 in
theorem lc_41 {Inv : zI → Prop} {n : Nat} (hS : zst_hold Inv n) (hB : zB p s m #[Value.ref b] meth c D T ad A sK sV code RL 4 ret) (hX : va_X b Ln xs s s.heap) (hbl : b < s.heap.size) (hbA : ¬ A b) (hLn : Ln ≤ 3072) (hcs : cells ≤ room_1.cells ∧ slots ≤ room_1.slots) {i : Nat} (hi : i + 6 ≤ Ln) {I : zI} {L : zL} (hI : Inv I) (k : ∀ (I2 : zI) (L2 : zL), Inv I2 → zZ p l e room_1 s m #[Value.ref b] below meth c D T ad A 4 cells slots (fun _ : Unit => lw_Z below #[Value.ref b] s) 1953 [(0, .ref b), (1, .ref (ad 0)), (2, .ref (ad 50)), (3, .int (nI i))] [] I2 L2 some (some ())) : zZ p l e room_1 s m #[Value.ref b] below meth c D T ad A 4 cells slots (fun _ : Unit => lw_Z below #[Value.ref b] s) 1597 [(0, .ref b), (1, .ref (ad 0)), (2, .ref (ad 50)), (3, .int (nI i))] [] I L some (some ()) := by
  obtain ⟨r, I1, I2, h1, h2, hI2⟩ := hS I L (xs (zn (nI (i + 1)))) (xs (zn (nI (i + 2)))) hI
  refine zr_aload_n hB 1 rfl rfl dL_law_1597 ?_
  refine zr_aload_n hB 0 rfl rfl dL_law_1598 ?_
  refine zr_iload_n hB 3 rfl rfl dL_law_1599 ?_
  refine zr_iconst (v := nI 1) hB (by decide) dL_law_1600 ?_
  refine zr_iadd hB dL_law_1601 ?_
  rw [nI_add i 1]
  refine zr_sld hB hX hbl hbA (vp_in_nI (show i + 1 < Ln by omega) (by omega)) dL_law_1602 ?_
  refine zr_aload_n hB 0 rfl rfl dL_law_1603 ?_
  refine zr_iload_n hB 3 rfl rfl dL_law_1604 ?_
  refine zr_iconst (v := nI 2) hB (by decide) dL_law_1605 ?_
  refine zr_iadd hB dL_law_1606 ?_
  rw [nI_add i 2]
  refine zr_sld hB hX hbl hbA (vp_in_nI (show i + 2 < Ln by omega) (by omega)) dL_law_1607 ?_
  refine zr_callW (st := []) (C := RX7) (w := 0) (As := [.int (xs (zn (nI (i + 1)))), .int (xs (zn (nI (i + 2))))]) (y0 := (some (.int r), I1, L)) hB (mX7_hold (sK := sK) (sV := sV) hB.2.2.2.2.2.2.2.2.1 (xs (zn (nI (i + 1)))) (xs (zn (nI (i + 2)))) I L (r, I1) h1) (zW_X7 rfl) rfl rfl lm_L_185 q2_X7_hold q3_X7_hold q4_X7 q5_X7_hold qd_X7_hold (by decide) rfl rfl (Nat.le_of_ble_eq_true rfl) hcs dL_law_1608 ?_
  refine zr_aload_n hB 2 rfl rfl dL_law_1611 ?_
  refine zr_aload_n hB 0 rfl rfl dL_law_1612 ?_
  refine zr_iload_n hB 3 rfl rfl dL_law_1613 ?_
  refine zr_iconst (v := nI 1) hB (by decide) dL_law_1614 ?_
  refine zr_iadd hB dL_law_1615 ?_
  rw [nI_add i 1]
  refine zr_sld hB hX hbl hbA (vp_in_nI (show i + 1 < Ln by omega) (by omega)) dL_law_1616 ?_
  refine zr_aload_n hB 0 rfl rfl dL_law_1617 ?_
  refine zr_iload_n hB 3 rfl rfl dL_law_1618 ?_
  refine zr_iconst (v := nI 2) hB (by decide) dL_law_1619 ?_
  refine zr_iadd hB dL_law_1620 ?_
  rw [nI_add i 2]
  refine zr_sld hB hX hbl hbA (vp_in_nI (show i + 2 < Ln by omega) (by omega)) dL_law_1621 ?_
  refine zr_callW (st := [.int r]) (C := RX8) (w := 50) (As := [.int (xs (zn (nI (i + 1)))), .int (xs (zn (nI (i + 2))))]) (y0 := (some (.int r), I2, L)) hB (mX8_hold (sK := sK) (sV := sV) hB.2.2.2.2.2.2.2.2.1 (xs (zn (nI (i + 1)))) (xs (zn (nI (i + 2)))) I1 L (r, I2) h2) (zW_X8 rfl) rfl rfl lm_L_188 q2_X8_hold q3_X8_hold q4_X8 q5_X8_hold qd_X8_hold (by decide) rfl rfl (Nat.le_of_ble_eq_true rfl) hcs dL_law_1622 ?_
  refine zr_ieqT hB rfl (tgt := 1953) (by decide) dL_law_1625 ?_
  exact k _ _ hI2
set_option maxRecDepth 100000 in
theorem lc_42 {Inv : zI → Prop} {n : Nat} (hS : zst_as Inv n) (hB : zB p s m #[Value.ref b] meth c D T ad A sK sV code RL 4 ret) (hX : va_X b Ln xs s s.heap) (hbl : b < s.heap.size) (hbA : ¬ A b) (hLn : Ln ≤ 3072) (hcs : cells ≤ room_1.cells ∧ slots ≤ room_1.slots) {i : Nat} (hi : i + 6 ≤ Ln) {I : zI} {L : zL} (hI : Inv I) (k : ∀ (I2 : zI) (L2 : zL), Inv I2 → zZ p l e room_1 s m #[Value.ref b] below meth c D T ad A 4 cells slots (fun _ : Unit => lw_Z below #[Value.ref b] s) 1953 [(0, .ref b), (1, .ref (ad 0)), (2, .ref (ad 50)), (3, .int (nI i))] [] I2 L2 some (some ())) : zZ p l e room_1 s m #[Value.ref b] below meth c D T ad A 4 cells slots (fun _ : Unit => lw_Z below #[Value.ref b] s) 1630 [(0, .ref b), (1, .ref (ad 0)), (2, .ref (ad 50)), (3, .int (nI i))] [] I L some (some ()) := by
  obtain ⟨r, I1, I2, h1, h2, hI2⟩ := hS I L (xs (zn (nI (i + 1)))) (xs (zn (nI (i + 2)))) hI
  refine zr_aload_n hB 1 rfl rfl dL_law_1630 ?_
  refine zr_aload_n hB 0 rfl rfl dL_law_1631 ?_
  refine zr_iload_n hB 3 rfl rfl dL_law_1632 ?_
  refine zr_iconst (v := nI 1) hB (by decide) dL_law_1633 ?_
  refine zr_iadd hB dL_law_1634 ?_
  rw [nI_add i 1]
  refine zr_sld hB hX hbl hbA (vp_in_nI (show i + 1 < Ln by omega) (by omega)) dL_law_1635 ?_
  refine zr_aload_n hB 0 rfl rfl dL_law_1636 ?_
  refine zr_iload_n hB 3 rfl rfl dL_law_1637 ?_
  refine zr_iconst (v := nI 2) hB (by decide) dL_law_1638 ?_
  refine zr_iadd hB dL_law_1639 ?_
  rw [nI_add i 2]
  refine zr_sld hB hX hbl hbA (vp_in_nI (show i + 2 < Ln by omega) (by omega)) dL_law_1640 ?_
  refine zr_callW (st := []) (C := RX7) (w := 0) (As := [.int (xs (zn (nI (i + 1)))), .int (xs (zn (nI (i + 2))))]) (y0 := (some (.int r), I1, L)) hB (mX7_as (sK := sK) (sV := sV) hB.2.2.2.2.2.2.2.2.1 n (xs (zn (nI (i + 1)))) (xs (zn (nI (i + 2)))) I L (r, I1) h1) (zW_X7 rfl) rfl rfl lm_L_189 q2_X7_as q3_X7_as q4_X7 q5_X7_as qd_X7_as (by decide) rfl rfl (Nat.le_of_ble_eq_true rfl) hcs dL_law_1641 ?_
  refine zr_aload_n hB 2 rfl rfl dL_law_1644 ?_
  refine zr_aload_n hB 0 rfl rfl dL_law_1645 ?_
  refine zr_iload_n hB 3 rfl rfl dL_law_1646 ?_
  refine zr_iconst (v := nI 1) hB (by decide) dL_law_1647 ?_
  refine zr_iadd hB dL_law_1648 ?_
  rw [nI_add i 1]
  refine zr_sld hB hX hbl hbA (vp_in_nI (show i + 1 < Ln by omega) (by omega)) dL_law_1649 ?_
  refine zr_aload_n hB 0 rfl rfl dL_law_1650 ?_
  refine zr_iload_n hB 3 rfl rfl dL_law_1651 ?_
  refine zr_iconst (v := nI 2) hB (by decide) dL_law_1652 ?_
  refine zr_iadd hB dL_law_1653 ?_
  rw [nI_add i 2]
  refine zr_sld hB hX hbl hbA (vp_in_nI (show i + 2 < Ln by omega) (by omega)) dL_law_1654 ?_
  refine zr_callW (st := [.int r]) (C := RX8) (w := 50) (As := [.int (xs (zn (nI (i + 1)))), .int (xs (zn (nI (i + 2))))]) (y0 := (some (.int r), I2, L)) hB (mX8_as (sK := sK) (sV := sV) hB.2.2.2.2.2.2.2.2.1 n (xs (zn (nI (i + 1)))) (xs (zn (nI (i + 2)))) I1 L (r, I2) h2) (zW_X8 rfl) rfl rfl lm_L_192 q2_X8_as q3_X8_as q4_X8 q5_X8_as qd_X8_as (by decide) rfl rfl (Nat.le_of_ble_eq_true rfl) hcs dL_law_1655 ?_
  refine zr_ieqT hB rfl (tgt := 1953) (by decide) dL_law_1658 ?_
  exact k _ _ hI2
set_option maxRecDepth 100000 in
theorem lc_43 {Inv : zI → Prop} {n : Nat} (hS : zst_sheet Inv n) (hB : zB p s m #[Value.ref b] meth c D T ad A sK sV code RL 4 ret) (hX : va_X b Ln xs s s.heap) (hbl : b < s.heap.size) (hbA : ¬ A b) (hLn : Ln ≤ 3072) (hcs : cells ≤ room_1.cells ∧ slots ≤ room_1.slots) {i : Nat} (hi : i + 6 ≤ Ln) {I : zI} {L : zL} (hI : Inv I) (k : ∀ (I2 : zI) (L2 : zL), Inv I2 → zZ p l e room_1 s m #[Value.ref b] below meth c D T ad A 4 cells slots (fun _ : Unit => lw_Z below #[Value.ref b] s) 1953 [(0, .ref b), (1, .ref (ad 0)), (2, .ref (ad 50)), (3, .int (nI i))] [] I2 L2 some (some ())) : zZ p l e room_1 s m #[Value.ref b] below meth c D T ad A 4 cells slots (fun _ : Unit => lw_Z below #[Value.ref b] s) 1663 [(0, .ref b), (1, .ref (ad 0)), (2, .ref (ad 50)), (3, .int (nI i))] [] I L some (some ()) := by
  obtain ⟨r, I1, I2, h1, h2, hI2⟩ := hS I L (xs (zn (nI (i + 1)))) (xs (zn (nI (i + 2)))) (xs (zn (nI (i + 3)))) hI
  refine zr_aload_n hB 1 rfl rfl dL_law_1663 ?_
  refine zr_aload_n hB 0 rfl rfl dL_law_1664 ?_
  refine zr_iload_n hB 3 rfl rfl dL_law_1665 ?_
  refine zr_iconst (v := nI 1) hB (by decide) dL_law_1666 ?_
  refine zr_iadd hB dL_law_1667 ?_
  rw [nI_add i 1]
  refine zr_sld hB hX hbl hbA (vp_in_nI (show i + 1 < Ln by omega) (by omega)) dL_law_1668 ?_
  refine zr_aload_n hB 0 rfl rfl dL_law_1669 ?_
  refine zr_iload_n hB 3 rfl rfl dL_law_1670 ?_
  refine zr_iconst (v := nI 2) hB (by decide) dL_law_1671 ?_
  refine zr_iadd hB dL_law_1672 ?_
  rw [nI_add i 2]
  refine zr_sld hB hX hbl hbA (vp_in_nI (show i + 2 < Ln by omega) (by omega)) dL_law_1673 ?_
  refine zr_aload_n hB 0 rfl rfl dL_law_1674 ?_
  refine zr_iload_n hB 3 rfl rfl dL_law_1675 ?_
  refine zr_iconst (v := nI 3) hB (by decide) dL_law_1676 ?_
  refine zr_iadd hB dL_law_1677 ?_
  rw [nI_add i 3]
  refine zr_sld hB hX hbl hbA (vp_in_nI (show i + 3 < Ln by omega) (by omega)) dL_law_1678 ?_
  refine zr_callW (st := []) (C := RX7) (w := 0) (As := [.int (xs (zn (nI (i + 1)))), .int (xs (zn (nI (i + 2)))), .int (xs (zn (nI (i + 3))))]) (y0 := (some (.int r), I1, L)) hB (mX7_sheet (sK := sK) (sV := sV) hB.2.2.2.2.2.2.2.2.1 (xs (zn (nI (i + 1)))) (xs (zn (nI (i + 2)))) (xs (zn (nI (i + 3)))) I L (r, I1) h1) (zW_X7 rfl) rfl rfl lm_L_193 q2_X7_sheet q3_X7_sheet q4_X7 q5_X7_sheet qd_X7_sheet (by decide) rfl rfl (Nat.le_of_ble_eq_true rfl) hcs dL_law_1679 ?_
  refine zr_aload_n hB 2 rfl rfl dL_law_1682 ?_
  refine zr_aload_n hB 0 rfl rfl dL_law_1683 ?_
  refine zr_iload_n hB 3 rfl rfl dL_law_1684 ?_
  refine zr_iconst (v := nI 1) hB (by decide) dL_law_1685 ?_
  refine zr_iadd hB dL_law_1686 ?_
  rw [nI_add i 1]
  refine zr_sld hB hX hbl hbA (vp_in_nI (show i + 1 < Ln by omega) (by omega)) dL_law_1687 ?_
  refine zr_aload_n hB 0 rfl rfl dL_law_1688 ?_
  refine zr_iload_n hB 3 rfl rfl dL_law_1689 ?_
  refine zr_iconst (v := nI 2) hB (by decide) dL_law_1690 ?_
  refine zr_iadd hB dL_law_1691 ?_
  rw [nI_add i 2]
  refine zr_sld hB hX hbl hbA (vp_in_nI (show i + 2 < Ln by omega) (by omega)) dL_law_1692 ?_
  refine zr_aload_n hB 0 rfl rfl dL_law_1693 ?_
  refine zr_iload_n hB 3 rfl rfl dL_law_1694 ?_
  refine zr_iconst (v := nI 3) hB (by decide) dL_law_1695 ?_
  refine zr_iadd hB dL_law_1696 ?_
  rw [nI_add i 3]
  refine zr_sld hB hX hbl hbA (vp_in_nI (show i + 3 < Ln by omega) (by omega)) dL_law_1697 ?_
  refine zr_callW (st := [.int r]) (C := RX8) (w := 50) (As := [.int (xs (zn (nI (i + 1)))), .int (xs (zn (nI (i + 2)))), .int (xs (zn (nI (i + 3))))]) (y0 := (some (.int r), I2, L)) hB (mX8_sheet (sK := sK) (sV := sV) hB.2.2.2.2.2.2.2.2.1 n (xs (zn (nI (i + 1)))) (xs (zn (nI (i + 2)))) (xs (zn (nI (i + 3)))) I1 L (r, I2) h2) (zW_X8 rfl) rfl rfl lm_L_196 q2_X8_sheet q3_X8_sheet q4_X8 q5_X8_sheet qd_X8_sheet (by decide) rfl rfl (Nat.le_of_ble_eq_true rfl) hcs dL_law_1698 ?_
  refine zr_ieqT hB rfl (tgt := 1953) (by decide) dL_law_1701 ?_
  exact k _ _ hI2
set_option maxRecDepth 100000 in
theorem lc_44 {Inv : zI → Prop} {n : Nat} (hS : zst_write Inv n) (hB : zB p s m #[Value.ref b] meth c D T ad A sK sV code RL 4 ret) (hX : va_X b Ln xs s s.heap) (hbl : b < s.heap.size) (hbA : ¬ A b) (hLn : Ln ≤ 3072) (hcs : cells ≤ room_1.cells ∧ slots ≤ room_1.slots) {i : Nat} (hi : i + 6 ≤ Ln) {I : zI} {L : zL} (hI : Inv I) (k : ∀ (I2 : zI) (L2 : zL), Inv I2 → zZ p l e room_1 s m #[Value.ref b] below meth c D T ad A 4 cells slots (fun _ : Unit => lw_Z below #[Value.ref b] s) 1953 [(0, .ref b), (1, .ref (ad 0)), (2, .ref (ad 50)), (3, .int (nI i))] [] I2 L2 some (some ())) : zZ p l e room_1 s m #[Value.ref b] below meth c D T ad A 4 cells slots (fun _ : Unit => lw_Z below #[Value.ref b] s) 1706 [(0, .ref b), (1, .ref (ad 0)), (2, .ref (ad 50)), (3, .int (nI i))] [] I L some (some ()) := by
  obtain ⟨r, I1, I2, h1, h2, hI2⟩ := hS I L (xs (zn (nI (i + 1)))) (xs (zn (nI (i + 2)))) (xs (zn (nI (i + 3)))) hI
  refine zr_aload_n hB 1 rfl rfl dL_law_1706 ?_
  refine zr_aload_n hB 0 rfl rfl dL_law_1707 ?_
  refine zr_iload_n hB 3 rfl rfl dL_law_1708 ?_
  refine zr_iconst (v := nI 1) hB (by decide) dL_law_1709 ?_
  refine zr_iadd hB dL_law_1710 ?_
  rw [nI_add i 1]
  refine zr_sld hB hX hbl hbA (vp_in_nI (show i + 1 < Ln by omega) (by omega)) dL_law_1711 ?_
  refine zr_aload_n hB 0 rfl rfl dL_law_1712 ?_
  refine zr_iload_n hB 3 rfl rfl dL_law_1713 ?_
  refine zr_iconst (v := nI 2) hB (by decide) dL_law_1714 ?_
  refine zr_iadd hB dL_law_1715 ?_
  rw [nI_add i 2]
  refine zr_sld hB hX hbl hbA (vp_in_nI (show i + 2 < Ln by omega) (by omega)) dL_law_1716 ?_
  refine zr_aload_n hB 0 rfl rfl dL_law_1717 ?_
  refine zr_iload_n hB 3 rfl rfl dL_law_1718 ?_
  refine zr_iconst (v := nI 3) hB (by decide) dL_law_1719 ?_
  refine zr_iadd hB dL_law_1720 ?_
  rw [nI_add i 3]
  refine zr_sld hB hX hbl hbA (vp_in_nI (show i + 3 < Ln by omega) (by omega)) dL_law_1721 ?_
  refine zr_callW (st := []) (C := RX7) (w := 0) (As := [.int (xs (zn (nI (i + 1)))), .int (xs (zn (nI (i + 2)))), .int (xs (zn (nI (i + 3))))]) (y0 := (some (.int r), I1, L)) hB (mX7_write (sK := sK) (sV := sV) hB.2.2.2.2.2.2.2.2.1 (xs (zn (nI (i + 1)))) (xs (zn (nI (i + 2)))) (xs (zn (nI (i + 3)))) I L (r, I1) h1) (zW_X7 rfl) rfl rfl lm_L_197 q2_X7_write q3_X7_write q4_X7 q5_X7_write qd_X7_write (by decide) rfl rfl (Nat.le_of_ble_eq_true rfl) hcs dL_law_1722 ?_
  refine zr_aload_n hB 2 rfl rfl dL_law_1725 ?_
  refine zr_aload_n hB 0 rfl rfl dL_law_1726 ?_
  refine zr_iload_n hB 3 rfl rfl dL_law_1727 ?_
  refine zr_iconst (v := nI 1) hB (by decide) dL_law_1728 ?_
  refine zr_iadd hB dL_law_1729 ?_
  rw [nI_add i 1]
  refine zr_sld hB hX hbl hbA (vp_in_nI (show i + 1 < Ln by omega) (by omega)) dL_law_1730 ?_
  refine zr_aload_n hB 0 rfl rfl dL_law_1731 ?_
  refine zr_iload_n hB 3 rfl rfl dL_law_1732 ?_
  refine zr_iconst (v := nI 2) hB (by decide) dL_law_1733 ?_
  refine zr_iadd hB dL_law_1734 ?_
  rw [nI_add i 2]
  refine zr_sld hB hX hbl hbA (vp_in_nI (show i + 2 < Ln by omega) (by omega)) dL_law_1735 ?_
  refine zr_aload_n hB 0 rfl rfl dL_law_1736 ?_
  refine zr_iload_n hB 3 rfl rfl dL_law_1737 ?_
  refine zr_iconst (v := nI 3) hB (by decide) dL_law_1738 ?_
  refine zr_iadd hB dL_law_1739 ?_
  rw [nI_add i 3]
  refine zr_sld hB hX hbl hbA (vp_in_nI (show i + 3 < Ln by omega) (by omega)) dL_law_1740 ?_
  refine zr_callW (st := [.int r]) (C := RX8) (w := 50) (As := [.int (xs (zn (nI (i + 1)))), .int (xs (zn (nI (i + 2)))), .int (xs (zn (nI (i + 3))))]) (y0 := (some (.int r), I2, L)) hB (mX8_write (sK := sK) (sV := sV) hB.2.2.2.2.2.2.2.2.1 (xs (zn (nI (i + 1)))) (xs (zn (nI (i + 2)))) (xs (zn (nI (i + 3)))) I1 L (r, I2) h2) (zW_X8 rfl) rfl rfl lm_L_200 q2_X8_write q3_X8_write q4_X8 q5_X8_write qd_X8_write (by decide) rfl rfl (Nat.le_of_ble_eq_true rfl) hcs dL_law_1741 ?_
  refine zr_ieqT hB rfl (tgt := 1953) (by decide) dL_law_1744 ?_
  exact k _ _ hI2
set_option maxRecDepth 100000 in
theorem lc_45 {Inv : zI → Prop} {n : Nat} (hS : zst_copy Inv n) (hB : zB p s m #[Value.ref b] meth c D T ad A sK sV code RL 4 ret) (hX : va_X b Ln xs s s.heap) (hbl : b < s.heap.size) (hbA : ¬ A b) (hLn : Ln ≤ 3072) (hcs : cells ≤ room_1.cells ∧ slots ≤ room_1.slots) {i : Nat} (hi : i + 6 ≤ Ln) {I : zI} {L : zL} (hI : Inv I) (k : ∀ (I2 : zI) (L2 : zL), Inv I2 → zZ p l e room_1 s m #[Value.ref b] below meth c D T ad A 4 cells slots (fun _ : Unit => lw_Z below #[Value.ref b] s) 1953 [(0, .ref b), (1, .ref (ad 0)), (2, .ref (ad 50)), (3, .int (nI i))] [] I2 L2 some (some ())) : zZ p l e room_1 s m #[Value.ref b] below meth c D T ad A 4 cells slots (fun _ : Unit => lw_Z below #[Value.ref b] s) 1749 [(0, .ref b), (1, .ref (ad 0)), (2, .ref (ad 50)), (3, .int (nI i))] [] I L some (some ()) := by
  obtain ⟨r, I1, I2, h1, h2, hI2⟩ := hS I L (xs (zn (nI (i + 1)))) (xs (zn (nI (i + 2)))) (xs (zn (nI (i + 3)))) (xs (zn (nI (i + 4)))) (xs (zn (nI (i + 5)))) hI
  refine zr_aload_n hB 1 rfl rfl dL_law_1749 ?_
  refine zr_aload_n hB 0 rfl rfl dL_law_1750 ?_
  refine zr_iload_n hB 3 rfl rfl dL_law_1751 ?_
  refine zr_iconst (v := nI 1) hB (by decide) dL_law_1752 ?_
  refine zr_iadd hB dL_law_1753 ?_
  rw [nI_add i 1]
  refine zr_sld hB hX hbl hbA (vp_in_nI (show i + 1 < Ln by omega) (by omega)) dL_law_1754 ?_
  refine zr_aload_n hB 0 rfl rfl dL_law_1755 ?_
  refine zr_iload_n hB 3 rfl rfl dL_law_1756 ?_
  refine zr_iconst (v := nI 2) hB (by decide) dL_law_1757 ?_
  refine zr_iadd hB dL_law_1758 ?_
  rw [nI_add i 2]
  refine zr_sld hB hX hbl hbA (vp_in_nI (show i + 2 < Ln by omega) (by omega)) dL_law_1759 ?_
  refine zr_aload_n hB 0 rfl rfl dL_law_1760 ?_
  refine zr_iload_n hB 3 rfl rfl dL_law_1761 ?_
  refine zr_iconst (v := nI 3) hB (by decide) dL_law_1762 ?_
  refine zr_iadd hB dL_law_1763 ?_
  rw [nI_add i 3]
  refine zr_sld hB hX hbl hbA (vp_in_nI (show i + 3 < Ln by omega) (by omega)) dL_law_1764 ?_
  refine zr_aload_n hB 0 rfl rfl dL_law_1765 ?_
  refine zr_iload_n hB 3 rfl rfl dL_law_1766 ?_
  refine zr_iconst (v := nI 4) hB (by decide) dL_law_1767 ?_
  refine zr_iadd hB dL_law_1768 ?_
  rw [nI_add i 4]
  refine zr_sld hB hX hbl hbA (vp_in_nI (show i + 4 < Ln by omega) (by omega)) dL_law_1769 ?_
  refine zr_aload_n hB 0 rfl rfl dL_law_1770 ?_
  refine zr_iload_n hB 3 rfl rfl dL_law_1771 ?_
  refine zr_iconst (v := nI 5) hB (by decide) dL_law_1772 ?_
  refine zr_iadd hB dL_law_1773 ?_
  rw [nI_add i 5]
  refine zr_sld hB hX hbl hbA (vp_in_nI (show i + 5 < Ln by omega) (by omega)) dL_law_1774 ?_
  refine zr_callW (st := []) (C := RX7) (w := 0) (As := [.int (xs (zn (nI (i + 1)))), .int (xs (zn (nI (i + 2)))), .int (xs (zn (nI (i + 3)))), .int (xs (zn (nI (i + 4)))), .int (xs (zn (nI (i + 5))))]) (y0 := (some (.int r), I1, L)) hB (mX7_copy (sK := sK) (sV := sV) hB.2.2.2.2.2.2.2.2.1 (xs (zn (nI (i + 1)))) (xs (zn (nI (i + 2)))) (xs (zn (nI (i + 3)))) (xs (zn (nI (i + 4)))) (xs (zn (nI (i + 5)))) I L (r, I1) h1) (zW_X7 rfl) rfl rfl lm_L_201 q2_X7_copy q3_X7_copy q4_X7 q5_X7_copy qd_X7_copy (by decide) rfl rfl (Nat.le_of_ble_eq_true rfl) hcs dL_law_1775 ?_
  refine zr_aload_n hB 2 rfl rfl dL_law_1778 ?_
  refine zr_aload_n hB 0 rfl rfl dL_law_1779 ?_
  refine zr_iload_n hB 3 rfl rfl dL_law_1780 ?_
  refine zr_iconst (v := nI 1) hB (by decide) dL_law_1781 ?_
  refine zr_iadd hB dL_law_1782 ?_
  rw [nI_add i 1]
  refine zr_sld hB hX hbl hbA (vp_in_nI (show i + 1 < Ln by omega) (by omega)) dL_law_1783 ?_
  refine zr_aload_n hB 0 rfl rfl dL_law_1784 ?_
  refine zr_iload_n hB 3 rfl rfl dL_law_1785 ?_
  refine zr_iconst (v := nI 2) hB (by decide) dL_law_1786 ?_
  refine zr_iadd hB dL_law_1787 ?_
  rw [nI_add i 2]
  refine zr_sld hB hX hbl hbA (vp_in_nI (show i + 2 < Ln by omega) (by omega)) dL_law_1788 ?_
  refine zr_aload_n hB 0 rfl rfl dL_law_1789 ?_
  refine zr_iload_n hB 3 rfl rfl dL_law_1790 ?_
  refine zr_iconst (v := nI 3) hB (by decide) dL_law_1791 ?_
  refine zr_iadd hB dL_law_1792 ?_
  rw [nI_add i 3]
  refine zr_sld hB hX hbl hbA (vp_in_nI (show i + 3 < Ln by omega) (by omega)) dL_law_1793 ?_
  refine zr_aload_n hB 0 rfl rfl dL_law_1794 ?_
  refine zr_iload_n hB 3 rfl rfl dL_law_1795 ?_
  refine zr_iconst (v := nI 4) hB (by decide) dL_law_1796 ?_
  refine zr_iadd hB dL_law_1797 ?_
  rw [nI_add i 4]
  refine zr_sld hB hX hbl hbA (vp_in_nI (show i + 4 < Ln by omega) (by omega)) dL_law_1798 ?_
  refine zr_aload_n hB 0 rfl rfl dL_law_1799 ?_
  refine zr_iload_n hB 3 rfl rfl dL_law_1800 ?_
  refine zr_iconst (v := nI 5) hB (by decide) dL_law_1801 ?_
  refine zr_iadd hB dL_law_1802 ?_
  rw [nI_add i 5]
  refine zr_sld hB hX hbl hbA (vp_in_nI (show i + 5 < Ln by omega) (by omega)) dL_law_1803 ?_
  refine zr_callW (st := [.int r]) (C := RX8) (w := 50) (As := [.int (xs (zn (nI (i + 1)))), .int (xs (zn (nI (i + 2)))), .int (xs (zn (nI (i + 3)))), .int (xs (zn (nI (i + 4)))), .int (xs (zn (nI (i + 5))))]) (y0 := (some (.int r), I2, L)) hB (mX8_copy (sK := sK) (sV := sV) hB.2.2.2.2.2.2.2.2.1 n (xs (zn (nI (i + 1)))) (xs (zn (nI (i + 2)))) (xs (zn (nI (i + 3)))) (xs (zn (nI (i + 4)))) (xs (zn (nI (i + 5)))) I1 L (r, I2) h2) (zW_X8 rfl) rfl rfl lm_L_205 q2_X8_copy q3_X8_copy q4_X8 q5_X8_copy qd_X8_copy (by decide) rfl rfl (Nat.le_of_ble_eq_true rfl) hcs dL_law_1804 ?_
  refine zr_ieqT hB rfl (tgt := 1953) (by decide) dL_law_1807 ?_
  exact k _ _ hI2
set_option maxRecDepth 100000 in
theorem lc_46 {Inv : zI → Prop} {n : Nat} (hS : zst_load Inv n) (hB : zB p s m #[Value.ref b] meth c D T ad A sK sV code RL 4 ret) (hX : va_X b Ln xs s s.heap) (hbl : b < s.heap.size) (hbA : ¬ A b) (hLn : Ln ≤ 3072) (hcs : cells ≤ room_1.cells ∧ slots ≤ room_1.slots) {i : Nat} (hi : i + 6 ≤ Ln) {I : zI} {L : zL} (hI : Inv I) (k : ∀ (I2 : zI) (L2 : zL), Inv I2 → zZ p l e room_1 s m #[Value.ref b] below meth c D T ad A 4 cells slots (fun _ : Unit => lw_Z below #[Value.ref b] s) 1953 [(0, .ref b), (1, .ref (ad 0)), (2, .ref (ad 50)), (3, .int (nI i))] [] I2 L2 some (some ())) : zZ p l e room_1 s m #[Value.ref b] below meth c D T ad A 4 cells slots (fun _ : Unit => lw_Z below #[Value.ref b] s) 1812 [(0, .ref b), (1, .ref (ad 0)), (2, .ref (ad 50)), (3, .int (nI i))] [] I L some (some ()) := by
  obtain ⟨r, I1, I2, h1, h2, hI2⟩ := hS I L (xs (zn (nI (i + 1)))) hI
  refine zr_aload_n hB 1 rfl rfl dL_law_1812 ?_
  refine zr_aload_n hB 0 rfl rfl dL_law_1813 ?_
  refine zr_iload_n hB 3 rfl rfl dL_law_1814 ?_
  refine zr_iconst (v := nI 1) hB (by decide) dL_law_1815 ?_
  refine zr_iadd hB dL_law_1816 ?_
  rw [nI_add i 1]
  refine zr_sld hB hX hbl hbA (vp_in_nI (show i + 1 < Ln by omega) (by omega)) dL_law_1817 ?_
  refine zr_callW (st := []) (C := RX7) (w := 0) (As := [.int (xs (zn (nI (i + 1))))]) (y0 := (some (.int r), I1, L)) hB (mX7_load (sK := sK) (sV := sV) hB.2.2.2.2.2.2.2.2.1 n (xs (zn (nI (i + 1)))) I L (r, I1) h1) (zW_X7 rfl) rfl rfl lm_L_206 q2_X7_load q3_X7_load q4_X7 q5_X7_load qd_X7_load (by decide) rfl rfl (Nat.le_of_ble_eq_true rfl) hcs dL_law_1818 ?_
  refine zr_aload_n hB 2 rfl rfl dL_law_1821 ?_
  refine zr_aload_n hB 0 rfl rfl dL_law_1822 ?_
  refine zr_iload_n hB 3 rfl rfl dL_law_1823 ?_
  refine zr_iconst (v := nI 1) hB (by decide) dL_law_1824 ?_
  refine zr_iadd hB dL_law_1825 ?_
  rw [nI_add i 1]
  refine zr_sld hB hX hbl hbA (vp_in_nI (show i + 1 < Ln by omega) (by omega)) dL_law_1826 ?_
  refine zr_callW (st := [.int r]) (C := RX8) (w := 50) (As := [.int (xs (zn (nI (i + 1))))]) (y0 := (some (.int r), I2, L)) hB (mX8_load (sK := sK) (sV := sV) hB.2.2.2.2.2.2.2.2.1 n (xs (zn (nI (i + 1)))) I1 L (r, I2) h2) (zW_X8 rfl) rfl rfl lm_L_209 q2_X8_load q3_X8_load q4_X8 q5_X8_load qd_X8_load (by decide) rfl rfl (Nat.le_of_ble_eq_true rfl) hcs dL_law_1827 ?_
  refine zr_ieqT hB rfl (tgt := 1953) (by decide) dL_law_1830 ?_
  exact k _ _ hI2
set_option maxRecDepth 100000 in
theorem lc_47 {Inv : zI → Prop} {n : Nat} (hS : zst_judge Inv n) (hB : zB p s m #[Value.ref b] meth c D T ad A sK sV code RL 4 ret) (hX : va_X b Ln xs s s.heap) (hbl : b < s.heap.size) (hbA : ¬ A b) (hLn : Ln ≤ 3072) (hcs : cells ≤ room_1.cells ∧ slots ≤ room_1.slots) {i : Nat} (hi : i + 6 ≤ Ln) {I : zI} {L : zL} (hI : Inv I) (k : ∀ (I2 : zI) (L2 : zL), Inv I2 → zZ p l e room_1 s m #[Value.ref b] below meth c D T ad A 4 cells slots (fun _ : Unit => lw_Z below #[Value.ref b] s) 1953 [(0, .ref b), (1, .ref (ad 0)), (2, .ref (ad 50)), (3, .int (nI i))] [] I2 L2 some (some ())) : zZ p l e room_1 s m #[Value.ref b] below meth c D T ad A 4 cells slots (fun _ : Unit => lw_Z below #[Value.ref b] s) 1835 [(0, .ref b), (1, .ref (ad 0)), (2, .ref (ad 50)), (3, .int (nI i))] [] I L some (some ()) := by
  obtain ⟨r, I1, I2, h1, h2, hI2⟩ := hS I L (xs (zn (nI (i + 1)))) (xs (zn (nI (i + 2)))) hI
  refine zr_aload_n hB 1 rfl rfl dL_law_1835 ?_
  refine zr_aload_n hB 0 rfl rfl dL_law_1836 ?_
  refine zr_iload_n hB 3 rfl rfl dL_law_1837 ?_
  refine zr_iconst (v := nI 1) hB (by decide) dL_law_1838 ?_
  refine zr_iadd hB dL_law_1839 ?_
  rw [nI_add i 1]
  refine zr_sld hB hX hbl hbA (vp_in_nI (show i + 1 < Ln by omega) (by omega)) dL_law_1840 ?_
  refine zr_aload_n hB 0 rfl rfl dL_law_1841 ?_
  refine zr_iload_n hB 3 rfl rfl dL_law_1842 ?_
  refine zr_iconst (v := nI 2) hB (by decide) dL_law_1843 ?_
  refine zr_iadd hB dL_law_1844 ?_
  rw [nI_add i 2]
  refine zr_sld hB hX hbl hbA (vp_in_nI (show i + 2 < Ln by omega) (by omega)) dL_law_1845 ?_
  refine zr_callW (st := []) (C := RX7) (w := 0) (As := [.int (xs (zn (nI (i + 1)))), .int (xs (zn (nI (i + 2))))]) (y0 := (some (.int r), I1, L)) hB (mX7_judge (sK := sK) (sV := sV) hB.2.2.2.2.2.2.2.2.1 n (xs (zn (nI (i + 1)))) (xs (zn (nI (i + 2)))) I L (r, I1) h1) (zW_X7 rfl) rfl rfl lm_L_210 q2_X7_judge q3_X7_judge q4_X7 q5_X7_judge qd_X7_judge (by decide) rfl rfl (Nat.le_of_ble_eq_true rfl) hcs dL_law_1846 ?_
  refine zr_aload_n hB 2 rfl rfl dL_law_1849 ?_
  refine zr_aload_n hB 0 rfl rfl dL_law_1850 ?_
  refine zr_iload_n hB 3 rfl rfl dL_law_1851 ?_
  refine zr_iconst (v := nI 1) hB (by decide) dL_law_1852 ?_
  refine zr_iadd hB dL_law_1853 ?_
  rw [nI_add i 1]
  refine zr_sld hB hX hbl hbA (vp_in_nI (show i + 1 < Ln by omega) (by omega)) dL_law_1854 ?_
  refine zr_aload_n hB 0 rfl rfl dL_law_1855 ?_
  refine zr_iload_n hB 3 rfl rfl dL_law_1856 ?_
  refine zr_iconst (v := nI 2) hB (by decide) dL_law_1857 ?_
  refine zr_iadd hB dL_law_1858 ?_
  rw [nI_add i 2]
  refine zr_sld hB hX hbl hbA (vp_in_nI (show i + 2 < Ln by omega) (by omega)) dL_law_1859 ?_
  refine zr_callW (st := [.int r]) (C := RX8) (w := 50) (As := [.int (xs (zn (nI (i + 1)))), .int (xs (zn (nI (i + 2))))]) (y0 := (some (.int r), I2, L)) hB (mX8_judge (sK := sK) (sV := sV) hB.2.2.2.2.2.2.2.2.1 n (xs (zn (nI (i + 1)))) (xs (zn (nI (i + 2)))) I1 L (r, I2) h2) (zW_X8 rfl) rfl rfl lm_L_213 q2_X8_judge q3_X8_judge q4_X8 q5_X8_judge qd_X8_judge (by decide) rfl rfl (Nat.le_of_ble_eq_true rfl) hcs dL_law_1860 ?_
  refine zr_ieqT hB rfl (tgt := 1953) (by decide) dL_law_1863 ?_
  exact k _ _ hI2
set_option maxRecDepth 100000 in
theorem lc_48 {Inv : zI → Prop} {n : Nat} (hS : zst_image Inv n) (hB : zB p s m #[Value.ref b] meth c D T ad A sK sV code RL 4 ret) (hX : va_X b Ln xs s s.heap) (hbl : b < s.heap.size) (hbA : ¬ A b) (hLn : Ln ≤ 3072) (hcs : cells ≤ room_1.cells ∧ slots ≤ room_1.slots) {i : Nat} (hi : i + 6 ≤ Ln) {I : zI} {L : zL} (hI : Inv I) (k : ∀ (I2 : zI) (L2 : zL), Inv I2 → zZ p l e room_1 s m #[Value.ref b] below meth c D T ad A 4 cells slots (fun _ : Unit => lw_Z below #[Value.ref b] s) 1953 [(0, .ref b), (1, .ref (ad 0)), (2, .ref (ad 50)), (3, .int (nI i))] [] I2 L2 some (some ())) : zZ p l e room_1 s m #[Value.ref b] below meth c D T ad A 4 cells slots (fun _ : Unit => lw_Z below #[Value.ref b] s) 1868 [(0, .ref b), (1, .ref (ad 0)), (2, .ref (ad 50)), (3, .int (nI i))] [] I L some (some ()) := by
  obtain ⟨r, I1, I2, h1, h2, hI2⟩ := hS I L  hI
  refine zr_aload_n hB 1 rfl rfl dL_law_1868 ?_
  refine zr_callW (st := []) (C := RX7) (w := 0) (As := []) (y0 := (some (.int r), I1, L)) hB (mX7_image (sK := sK) (sV := sV) hB.2.2.2.2.2.2.2.2.1  I L (r, I1) h1) (zW_X7 rfl) rfl rfl lm_L_214 q2_X7_image q3_X7_image q4_X7 q5_X7_image qd_X7_image (by decide) rfl rfl (Nat.le_of_ble_eq_true rfl) hcs dL_law_1869 ?_
  refine zr_aload_n hB 2 rfl rfl dL_law_1872 ?_
  refine zr_callW (st := [.int r]) (C := RX8) (w := 50) (As := []) (y0 := (some (.int r), I2, L)) hB (mX8_image (sK := sK) (sV := sV) hB.2.2.2.2.2.2.2.2.1 n I1 L (r, I2) h2) (zW_X8 rfl) rfl rfl lm_L_217 q2_X8_image q3_X8_image q4_X8 q5_X8_image qd_X8_image (by decide) rfl rfl (Nat.le_of_ble_eq_true rfl) hcs dL_law_1873 ?_
  refine zr_ieqT hB rfl (tgt := 1953) (by decide) dL_law_1876 ?_
  exact k _ _ hI2
set_option maxRecDepth 100000 in
theorem lc_49 {Inv : zI → Prop} {n : Nat} (hS : zst_undo Inv n) (hB : zB p s m #[Value.ref b] meth c D T ad A sK sV code RL 4 ret) (hX : va_X b Ln xs s s.heap) (hbl : b < s.heap.size) (hbA : ¬ A b) (hLn : Ln ≤ 3072) (hcs : cells ≤ room_1.cells ∧ slots ≤ room_1.slots) {i : Nat} (hi : i + 6 ≤ Ln) {I : zI} {L : zL} (hI : Inv I) (k : ∀ (I2 : zI) (L2 : zL), Inv I2 → zZ p l e room_1 s m #[Value.ref b] below meth c D T ad A 4 cells slots (fun _ : Unit => lw_Z below #[Value.ref b] s) 1953 [(0, .ref b), (1, .ref (ad 0)), (2, .ref (ad 50)), (3, .int (nI i))] [] I2 L2 some (some ())) : zZ p l e room_1 s m #[Value.ref b] below meth c D T ad A 4 cells slots (fun _ : Unit => lw_Z below #[Value.ref b] s) 1881 [(0, .ref b), (1, .ref (ad 0)), (2, .ref (ad 50)), (3, .int (nI i))] [] I L some (some ()) := by
  obtain ⟨r, I1, I2, h1, h2, hI2⟩ := hS I L  hI
  refine zr_aload_n hB 1 rfl rfl dL_law_1881 ?_
  refine zr_callW (st := []) (C := RX7) (w := 0) (As := []) (y0 := (some (.int r), I1, L)) hB (mX7_undo (sK := sK) (sV := sV) hB.2.2.2.2.2.2.2.2.1  I L (r, I1) h1) (zW_X7 rfl) rfl rfl lm_L_218 q2_X7_undo q3_X7_undo q4_X7 q5_X7_undo qd_X7_undo (by decide) rfl rfl (Nat.le_of_ble_eq_true rfl) hcs dL_law_1882 ?_
  refine zr_aload_n hB 2 rfl rfl dL_law_1885 ?_
  refine zr_callW (st := [.int r]) (C := RX8) (w := 50) (As := []) (y0 := (some (.int r), I2, L)) hB (mX8_undo (sK := sK) (sV := sV) hB.2.2.2.2.2.2.2.2.1 n I1 L (r, I2) h2) (zW_X8 rfl) rfl rfl lm_L_221 q2_X8_undo q3_X8_undo q4_X8 q5_X8_undo qd_X8_undo (by decide) rfl rfl (Nat.le_of_ble_eq_true rfl) hcs dL_law_1886 ?_
  refine zr_ieqT hB rfl (tgt := 1953) (by decide) dL_law_1889 ?_
  exact k _ _ hI2
set_option maxRecDepth 100000 in
theorem lc_50 {Inv : zI → Prop} {n : Nat} (hS : zst_tear Inv n) (hB : zB p s m #[Value.ref b] meth c D T ad A sK sV code RL 4 ret) (hX : va_X b Ln xs s s.heap) (hbl : b < s.heap.size) (hbA : ¬ A b) (hLn : Ln ≤ 3072) (hcs : cells ≤ room_1.cells ∧ slots ≤ room_1.slots) {i : Nat} (hi : i + 6 ≤ Ln) {I : zI} {L : zL} (hI : Inv I) (k : ∀ (I2 : zI) (L2 : zL), Inv I2 → zZ p l e room_1 s m #[Value.ref b] below meth c D T ad A 4 cells slots (fun _ : Unit => lw_Z below #[Value.ref b] s) 1953 [(0, .ref b), (1, .ref (ad 0)), (2, .ref (ad 50)), (3, .int (nI i))] [] I2 L2 some (some ())) : zZ p l e room_1 s m #[Value.ref b] below meth c D T ad A 4 cells slots (fun _ : Unit => lw_Z below #[Value.ref b] s) 1894 [(0, .ref b), (1, .ref (ad 0)), (2, .ref (ad 50)), (3, .int (nI i))] [] I L some (some ()) := by
  obtain ⟨r, I1, I2, h1, h2, hI2⟩ := hS I L  hI
  refine zr_aload_n hB 1 rfl rfl dL_law_1894 ?_
  refine zr_callW (st := []) (C := RX7) (w := 0) (As := []) (y0 := (some (.int r), I1, L)) hB (mX7_tear (sK := sK) (sV := sV) hB.2.2.2.2.2.2.2.2.1  I L (r, I1) h1) (zW_X7 rfl) rfl rfl lm_L_222 q2_X7_tear q3_X7_tear q4_X7 q5_X7_tear qd_X7_tear (by decide) rfl rfl (Nat.le_of_ble_eq_true rfl) hcs dL_law_1895 ?_
  refine zr_aload_n hB 2 rfl rfl dL_law_1898 ?_
  refine zr_callW (st := [.int r]) (C := RX8) (w := 50) (As := []) (y0 := (some (.int r), I2, L)) hB (mX8_tear (sK := sK) (sV := sV) hB.2.2.2.2.2.2.2.2.1  I1 L (r, I2) h2) (zW_X8 rfl) rfl rfl lm_L_225 q2_X8_tear q3_X8_tear q4_X8 q5_X8_tear qd_X8_tear (by decide) rfl rfl (Nat.le_of_ble_eq_true rfl) hcs dL_law_1899 ?_
  refine zr_ieqT hB rfl (tgt := 1953) (by decide) dL_law_1902 ?_
  exact k _ _ hI2
set_option maxRecDepth 100000 in
theorem lc_51 {Inv : zI → Prop} {n : Nat} (hS : zst_count Inv n) (hB : zB p s m #[Value.ref b] meth c D T ad A sK sV code RL 4 ret) (hX : va_X b Ln xs s s.heap) (hbl : b < s.heap.size) (hbA : ¬ A b) (hLn : Ln ≤ 3072) (hcs : cells ≤ room_1.cells ∧ slots ≤ room_1.slots) {i : Nat} (hi : i + 6 ≤ Ln) {I : zI} {L : zL} (hI : Inv I) (k : ∀ (I2 : zI) (L2 : zL), Inv I2 → zZ p l e room_1 s m #[Value.ref b] below meth c D T ad A 4 cells slots (fun _ : Unit => lw_Z below #[Value.ref b] s) 1953 [(0, .ref b), (1, .ref (ad 0)), (2, .ref (ad 50)), (3, .int (nI i))] [] I2 L2 some (some ())) : zZ p l e room_1 s m #[Value.ref b] below meth c D T ad A 4 cells slots (fun _ : Unit => lw_Z below #[Value.ref b] s) 1907 [(0, .ref b), (1, .ref (ad 0)), (2, .ref (ad 50)), (3, .int (nI i))] [] I L some (some ()) := by
  obtain ⟨r, I1, I2, h1, h2, hI2⟩ := hS I L (xs (zn (nI (i + 1)))) hI
  refine zr_aload_n hB 1 rfl rfl dL_law_1907 ?_
  refine zr_aload_n hB 0 rfl rfl dL_law_1908 ?_
  refine zr_iload_n hB 3 rfl rfl dL_law_1909 ?_
  refine zr_iconst (v := nI 1) hB (by decide) dL_law_1910 ?_
  refine zr_iadd hB dL_law_1911 ?_
  rw [nI_add i 1]
  refine zr_sld hB hX hbl hbA (vp_in_nI (show i + 1 < Ln by omega) (by omega)) dL_law_1912 ?_
  refine zr_callW (st := []) (C := RX7) (w := 0) (As := [.int (xs (zn (nI (i + 1))))]) (y0 := (some (.int r), I1, L)) hB (mX7_count (sK := sK) (sV := sV) hB.2.2.2.2.2.2.2.2.1 n (xs (zn (nI (i + 1)))) I L (r, I1) h1) (zW_X7 rfl) rfl rfl lm_L_226 q2_X7_count q3_X7_count q4_X7 q5_X7_count qd_X7_count (by decide) rfl rfl (Nat.le_of_ble_eq_true rfl) hcs dL_law_1913 ?_
  refine zr_aload_n hB 2 rfl rfl dL_law_1916 ?_
  refine zr_aload_n hB 0 rfl rfl dL_law_1917 ?_
  refine zr_iload_n hB 3 rfl rfl dL_law_1918 ?_
  refine zr_iconst (v := nI 1) hB (by decide) dL_law_1919 ?_
  refine zr_iadd hB dL_law_1920 ?_
  rw [nI_add i 1]
  refine zr_sld hB hX hbl hbA (vp_in_nI (show i + 1 < Ln by omega) (by omega)) dL_law_1921 ?_
  refine zr_callW (st := [.int r]) (C := RX8) (w := 50) (As := [.int (xs (zn (nI (i + 1))))]) (y0 := (some (.int r), I2, L)) hB (mX8_count (sK := sK) (sV := sV) hB.2.2.2.2.2.2.2.2.1 n (xs (zn (nI (i + 1)))) I1 L (r, I2) h2) (zW_X8 rfl) rfl rfl lm_L_229 q2_X8_count q3_X8_count q4_X8 q5_X8_count qd_X8_count (by decide) rfl rfl (Nat.le_of_ble_eq_true rfl) hcs dL_law_1922 ?_
  refine zr_ieqT hB rfl (tgt := 1953) (by decide) dL_law_1925 ?_
  exact k _ _ hI2
set_option maxRecDepth 100000 in
theorem lc_52 {Inv : zI → Prop} {n : Nat} (hS : zst_status Inv n) (hB : zB p s m #[Value.ref b] meth c D T ad A sK sV code RL 4 ret) (hX : va_X b Ln xs s s.heap) (hbl : b < s.heap.size) (hbA : ¬ A b) (hLn : Ln ≤ 3072) (hcs : cells ≤ room_1.cells ∧ slots ≤ room_1.slots) {i : Nat} (hi : i + 6 ≤ Ln) {I : zI} {L : zL} (hI : Inv I) (k : ∀ (I2 : zI) (L2 : zL), Inv I2 → zZ p l e room_1 s m #[Value.ref b] below meth c D T ad A 4 cells slots (fun _ : Unit => lw_Z below #[Value.ref b] s) 1953 [(0, .ref b), (1, .ref (ad 0)), (2, .ref (ad 50)), (3, .int (nI i))] [] I2 L2 some (some ())) : zZ p l e room_1 s m #[Value.ref b] below meth c D T ad A 4 cells slots (fun _ : Unit => lw_Z below #[Value.ref b] s) 1930 [(0, .ref b), (1, .ref (ad 0)), (2, .ref (ad 50)), (3, .int (nI i))] [] I L some (some ()) := by
  obtain ⟨r, I1, I2, h1, h2, hI2⟩ := hS I L (xs (zn (nI (i + 1)))) hI
  refine zr_aload_n hB 1 rfl rfl dL_law_1930 ?_
  refine zr_aload_n hB 0 rfl rfl dL_law_1931 ?_
  refine zr_iload_n hB 3 rfl rfl dL_law_1932 ?_
  refine zr_iconst (v := nI 1) hB (by decide) dL_law_1933 ?_
  refine zr_iadd hB dL_law_1934 ?_
  rw [nI_add i 1]
  refine zr_sld hB hX hbl hbA (vp_in_nI (show i + 1 < Ln by omega) (by omega)) dL_law_1935 ?_
  refine zr_callW (st := []) (C := RX7) (w := 0) (As := [.int (xs (zn (nI (i + 1))))]) (y0 := (some (.int r), I1, L)) hB (mX7_status (sK := sK) (sV := sV) hB.2.2.2.2.2.2.2.2.1 n (xs (zn (nI (i + 1)))) I L (r, I1) h1) (zW_X7 rfl) rfl rfl lm_L_230 q2_X7_status q3_X7_status q4_X7 q5_X7_status qd_X7_status (by decide) rfl rfl (Nat.le_of_ble_eq_true rfl) hcs dL_law_1936 ?_
  refine zr_aload_n hB 2 rfl rfl dL_law_1939 ?_
  refine zr_aload_n hB 0 rfl rfl dL_law_1940 ?_
  refine zr_iload_n hB 3 rfl rfl dL_law_1941 ?_
  refine zr_iconst (v := nI 1) hB (by decide) dL_law_1942 ?_
  refine zr_iadd hB dL_law_1943 ?_
  rw [nI_add i 1]
  refine zr_sld hB hX hbl hbA (vp_in_nI (show i + 1 < Ln by omega) (by omega)) dL_law_1944 ?_
  refine zr_callW (st := [.int r]) (C := RX8) (w := 50) (As := [.int (xs (zn (nI (i + 1))))]) (y0 := (some (.int r), I2, L)) hB (mX8_status (sK := sK) (sV := sV) hB.2.2.2.2.2.2.2.2.1 n (xs (zn (nI (i + 1)))) I1 L (r, I2) h2) (zW_X8 rfl) rfl rfl lm_L_233 q2_X8_status q3_X8_status q4_X8 q5_X8_status qd_X8_status (by decide) rfl rfl (Nat.le_of_ble_eq_true rfl) hcs dL_law_1945 ?_
  refine zr_ieqT hB rfl (tgt := 1953) (by decide) dL_law_1948 ?_
  exact k _ _ hI2
set_option maxHeartbeats 4000000 in
set_option maxRecDepth 100000 in
theorem law_loop {Inv : zI → Prop} {n : Nat} (hS : zSteps Inv n) (hB : zB p s m #[Value.ref b] meth c D T ad A sK sV code RL 4 ret) (hA : A = fun q => s.heap.size ≤ q) (hX : va_X b Ln xs s s.heap) (hbl : b < s.heap.size) (hLn : Ln ≤ 3072) (hcs : cells ≤ room_1.cells ∧ slots ≤ room_1.slots) : ∀ (q i : Nat), Ln + 6 ≤ i + q → i ≤ Ln + 6 → ∀ (I : zI) (L : zL), Inv I → zZ p l e room_1 s m #[Value.ref b] below meth c D T ad A 4 cells slots (fun _ : Unit => lw_Z below #[Value.ref b] s) 18 [(0, .ref b), (1, .ref (ad 0)), (2, .ref (ad 50)), (3, .int (nI i))] [] I L some (some ()) := by
  have hbA : ¬ A b := by rw [hA]; exact Nat.not_le.mpr hbl
  intro q
  induction q with
  | zero =>
    intro i h1 h2 I L hI
    refine zr_iload_n hB 3 rfl rfl dL_law_18 ?_
    refine zr_aload_n hB 0 rfl rfl dL_law_19 ?_
    refine zr_slenL hB hX hbl hbA dL_law_20 ?_
    refine zr_bipush (v := nI 6) hB (by decide) dL_law_21 ?_
    refine zr_isub hB dL_law_23 ?_
    refine zr_gtT hB (tgt := 1959) (by decide) dL_law_24 (fun _ => ?_) (fun h => ?_)
    · refine zr_iconst (v := 1) hB (by decide) dL_law_1959 ?_
      intro o ho H locs ls hP hSx hl
      refine va_forget (fun q hq => by have := hSx.2.2 q hq; rw [hA] at this; exact this) ?_
      refine W.widen (k := 600000) (n := 7302250) hcs.1 hcs.2 ?_
      exact lw_ret hB.1 hB.2.1 hB.2.2.1 hB.2.2.2.2.2.2.1 dL_law_1960
    · exact absurd (zlaw_gt (by omega) (by omega)) h
  | succ q ih =>
    intro i h1 h2 I L hI
    refine zr_iload_n hB 3 rfl rfl dL_law_18 ?_
    refine zr_aload_n hB 0 rfl rfl dL_law_19 ?_
    refine zr_slenL hB hX hbl hbA dL_law_20 ?_
    refine zr_bipush (v := nI 6) hB (by decide) dL_law_21 ?_
    refine zr_isub hB dL_law_23 ?_
    refine zr_gtT hB (tgt := 1959) (by decide) dL_law_24 (fun _ => ?_) (fun h => ?_)
    · refine zr_iconst (v := 1) hB (by decide) dL_law_1959 ?_
      intro o ho H locs ls hP hSx hl
      refine va_forget (fun q hq => by have := hSx.2.2 q hq; rw [hA] at this; exact this) ?_
      refine W.widen (k := 600000) (n := 7302250) hcs.1 hcs.2 ?_
      exact lw_ret hB.1 hB.2.1 hB.2.2.1 hB.2.2.2.2.2.2.1 dL_law_1960
    have h6 : i + 6 ≤ Ln := by
      rcases Nat.lt_or_ge Ln (i + 6) with z | z
      · exact absurd (zlaw_gt z (by omega)) h
      · exact z
    have hend : ∀ (I2 : zI) (L2 : zL), Inv I2 → zZ p l e room_1 s m #[Value.ref b] below meth c D T ad A 4 cells slots (fun _ : Unit => lw_Z below #[Value.ref b] s) 1953 [(0, .ref b), (1, .ref (ad 0)), (2, .ref (ad 50)), (3, .int (nI i))] [] I2 L2 some (some ()) := by
      intro I2 L2 hI2
      refine zr_iinc (lv' := [(3, .int (nI (i + 6))), (0, .ref b), (1, .ref (ad 0)), (2, .ref (ad 50))]) hB (j := 3) rfl (by rw [← nI_add]; rfl) (by decide) rfl dL_law_1953 ?_
      refine zr_goto (tgt := 18) hB (by decide) dL_law_1956 ?_
      exact zr_sub [1, 2, 3, 0] rfl (ih (i + 6) (by omega) (by omega) I2 L2 hI2)
    refine zr_aload_n hB 0 rfl rfl dL_law_27 ?_
    refine zr_iload_n hB 3 rfl rfl dL_law_28 ?_
    refine zr_sld hB hX hbl hbA (vp_in_nI (show i < Ln by omega) (by omega)) dL_law_29 ?_
    refine zr_bipush (v := 63) hB (by decide) dL_law_30 ?_
    refine zr_iand hB dL_law_32 ?_
    obtain ⟨j, hj, ej⟩ := pk_andE (xs (zn (nI i))) (m := 63) 6 (by decide)
    exact
      match j, hj, ej with
      | 0, _, ej => zr_tsIn (tgt := 260) (v := nI 0) hB ej dL_law_33 (by decide) (by decide) rfl (by decide) (lc_0 hS.1 hB hX hbl hbA hLn hcs h6 hI (fun I2 L2 hI2 => hend I2 L2 hI2))
      | 1, _, ej => zr_tsIn (tgt := 303) (v := nI 1) hB ej dL_law_33 (by decide) (by decide) rfl (by decide) (lc_1 hS.2.1 hB hX hbl hbA hLn hcs h6 hI (fun I2 L2 hI2 => hend I2 L2 hI2))
      | 2, _, ej => zr_tsIn (tgt := 336) (v := nI 2) hB ej dL_law_33 (by decide) (by decide) rfl (by decide) (lc_2 hS.2.2.1 hB hX hbl hbA hLn hcs h6 hI (fun I2 L2 hI2 => hend I2 L2 hI2))
      | 3, _, ej => zr_tsIn (tgt := 369) (v := nI 3) hB ej dL_law_33 (by decide) (by decide) rfl (by decide) (lc_3 hS.2.2.2.1 hB hX hbl hbA hLn hcs h6 hI (fun I2 L2 hI2 => hend I2 L2 hI2))
      | 4, _, ej => zr_tsIn (tgt := 402) (v := nI 4) hB ej dL_law_33 (by decide) (by decide) rfl (by decide) (lc_4 hS.2.2.2.2.1 hB hX hbl hbA hLn hcs h6 hI (fun I2 L2 hI2 => hend I2 L2 hI2))
      | 5, _, ej => zr_tsIn (tgt := 445) (v := nI 5) hB ej dL_law_33 (by decide) (by decide) rfl (by decide) (lc_5 hS.2.2.2.2.2.1 hB hX hbl hbA hLn hcs h6 hI (fun I2 L2 hI2 => hend I2 L2 hI2))
      | 6, _, ej => zr_tsIn (tgt := 468) (v := nI 6) hB ej dL_law_33 (by decide) (by decide) rfl (by decide) (lc_6 hS.2.2.2.2.2.2.1 hB hX hbl hbA hLn hcs h6 hI (fun I2 L2 hI2 => hend I2 L2 hI2))
      | 7, _, ej => zr_tsIn (tgt := 511) (v := nI 7) hB ej dL_law_33 (by decide) (by decide) rfl (by decide) (lc_7 hS.2.2.2.2.2.2.2.1 hB hX hbl hbA hLn hcs h6 hI (fun I2 L2 hI2 => hend I2 L2 hI2))
      | 8, _, ej => zr_tsIn (tgt := 544) (v := nI 8) hB ej dL_law_33 (by decide) (by decide) rfl (by decide) (lc_8 hS.2.2.2.2.2.2.2.2.1 hB hX hbl hbA hLn hcs h6 hI (fun I2 L2 hI2 => hend I2 L2 hI2))
      | 9, _, ej => zr_tsIn (tgt := 567) (v := nI 9) hB ej dL_law_33 (by decide) (by decide) rfl (by decide) (lc_9 hS.2.2.2.2.2.2.2.2.2.1 hB hX hbl hbA hLn hcs h6 hI (fun I2 L2 hI2 => hend I2 L2 hI2))
      | 10, _, ej => zr_tsIn (tgt := 600) (v := nI 10) hB ej dL_law_33 (by decide) (by decide) rfl (by decide) (lc_10 hS.2.2.2.2.2.2.2.2.2.2.1 hB hX hbl hbA hLn hcs h6 hI (fun I2 L2 hI2 => hend I2 L2 hI2))
      | 11, _, ej => zr_tsIn (tgt := 623) (v := nI 11) hB ej dL_law_33 (by decide) (by decide) rfl (by decide) (lc_11 hS.2.2.2.2.2.2.2.2.2.2.2.1 hB hX hbl hbA hLn hcs h6 hI (fun I2 L2 hI2 => hend I2 L2 hI2))
      | 12, _, ej => zr_tsIn (tgt := 646) (v := nI 12) hB ej dL_law_33 (by decide) (by decide) rfl (by decide) (lc_12 hS.2.2.2.2.2.2.2.2.2.2.2.2.1 hB hX hbl hbA hLn hcs h6 hI (fun I2 L2 hI2 => hend I2 L2 hI2))
      | 13, _, ej => zr_tsIn (tgt := 689) (v := nI 13) hB ej dL_law_33 (by decide) (by decide) rfl (by decide) (lc_13 hS.2.2.2.2.2.2.2.2.2.2.2.2.2.1 hB hX hbl hbA hLn hcs h6 hI (fun I2 L2 hI2 => hend I2 L2 hI2))
      | 14, _, ej => zr_tsIn (tgt := 732) (v := nI 14) hB ej dL_law_33 (by decide) (by decide) rfl (by decide) (lc_14 hS.2.2.2.2.2.2.2.2.2.2.2.2.2.2.1 hB hX hbl hbA hLn hcs h6 hI (fun I2 L2 hI2 => hend I2 L2 hI2))
      | 15, _, ej => zr_tsIn (tgt := 775) (v := nI 15) hB ej dL_law_33 (by decide) (by decide) rfl (by decide) (lc_15 hS.2.2.2.2.2.2.2.2.2.2.2.2.2.2.2.1 hB hX hbl hbA hLn hcs h6 hI (fun I2 L2 hI2 => hend I2 L2 hI2))
      | 16, _, ej => zr_tsIn (tgt := 798) (v := nI 16) hB ej dL_law_33 (by decide) (by decide) rfl (by decide) (lc_16 hS.2.2.2.2.2.2.2.2.2.2.2.2.2.2.2.2.1 hB hX hbl hbA hLn hcs h6 hI (fun I2 L2 hI2 => hend I2 L2 hI2))
      | 17, _, ej => zr_tsIn (tgt := 831) (v := nI 17) hB ej dL_law_33 (by decide) (by decide) rfl (by decide) (lc_17 hS.2.2.2.2.2.2.2.2.2.2.2.2.2.2.2.2.2.1 hB hX hbl hbA hLn hcs h6 hI (fun I2 L2 hI2 => hend I2 L2 hI2))
      | 18, _, ej => zr_tsIn (tgt := 855) (v := nI 18) hB ej dL_law_33 (by decide) (by decide) rfl (by decide) (lc_18 hS.2.2.2.2.2.2.2.2.2.2.2.2.2.2.2.2.2.2.1 hB hX hbl hbA hLn hcs h6 hI (fun I2 L2 hI2 => hend I2 L2 hI2))
      | 19, _, ej => zr_tsIn (tgt := 888) (v := nI 19) hB ej dL_law_33 (by decide) (by decide) rfl (by decide) (lc_19 hS.2.2.2.2.2.2.2.2.2.2.2.2.2.2.2.2.2.2.2.1 hB hX hbl hbA hLn hcs h6 hI (fun I2 L2 hI2 => hend I2 L2 hI2))
      | 20, _, ej => zr_tsIn (tgt := 931) (v := nI 20) hB ej dL_law_33 (by decide) (by decide) rfl (by decide) (lc_20 hS.2.2.2.2.2.2.2.2.2.2.2.2.2.2.2.2.2.2.2.2.1 hB hX hbl hbA hLn hcs h6 hI (fun I2 L2 hI2 => hend I2 L2 hI2))
      | 21, _, ej => zr_tsIn (tgt := 964) (v := nI 21) hB ej dL_law_33 (by decide) (by decide) rfl (by decide) (lc_21 hS.2.2.2.2.2.2.2.2.2.2.2.2.2.2.2.2.2.2.2.2.2.1 hB hX hbl hbA hLn hcs h6 hI (fun I2 L2 hI2 => hend I2 L2 hI2))
      | 22, _, ej => zr_tsIn (tgt := 997) (v := nI 22) hB ej dL_law_33 (by decide) (by decide) rfl (by decide) (lc_22 hS.2.2.2.2.2.2.2.2.2.2.2.2.2.2.2.2.2.2.2.2.2.2.1 hB hX hbl hbA hLn hcs h6 hI (fun I2 L2 hI2 => hend I2 L2 hI2))
      | 23, _, ej => zr_tsIn (tgt := 1030) (v := nI 23) hB ej dL_law_33 (by decide) (by decide) rfl (by decide) (lc_23 hS.2.2.2.2.2.2.2.2.2.2.2.2.2.2.2.2.2.2.2.2.2.2.2.1 hB hX hbl hbA hLn hcs h6 hI (fun I2 L2 hI2 => hend I2 L2 hI2))
      | 24, _, ej => zr_tsIn (tgt := 1073) (v := nI 24) hB ej dL_law_33 (by decide) (by decide) rfl (by decide) (lc_24 hS.2.2.2.2.2.2.2.2.2.2.2.2.2.2.2.2.2.2.2.2.2.2.2.2.1 hB hX hbl hbA hLn hcs h6 hI (fun I2 L2 hI2 => hend I2 L2 hI2))
      | 25, _, ej => zr_tsIn (tgt := 1116) (v := nI 25) hB ej dL_law_33 (by decide) (by decide) rfl (by decide) (lc_25 hS.2.2.2.2.2.2.2.2.2.2.2.2.2.2.2.2.2.2.2.2.2.2.2.2.2.1 hB hX hbl hbA hLn hcs h6 hI (fun I2 L2 hI2 => hend I2 L2 hI2))
      | 26, _, ej => zr_tsIn (tgt := 1159) (v := nI 26) hB ej dL_law_33 (by decide) (by decide) rfl (by decide) (lc_26 hS.2.2.2.2.2.2.2.2.2.2.2.2.2.2.2.2.2.2.2.2.2.2.2.2.2.2.1 hB hX hbl hbA hLn hcs h6 hI (fun I2 L2 hI2 => hend I2 L2 hI2))
      | 27, _, ej => zr_tsIn (tgt := 1172) (v := nI 27) hB ej dL_law_33 (by decide) (by decide) rfl (by decide) (lc_27 hS.2.2.2.2.2.2.2.2.2.2.2.2.2.2.2.2.2.2.2.2.2.2.2.2.2.2.2.1 hB hX hbl hbA hLn hcs h6 hI (fun I2 L2 hI2 => hend I2 L2 hI2))
      | 28, _, ej => zr_tsIn (tgt := 1185) (v := nI 28) hB ej dL_law_33 (by decide) (by decide) rfl (by decide) (lc_28 hS.2.2.2.2.2.2.2.2.2.2.2.2.2.2.2.2.2.2.2.2.2.2.2.2.2.2.2.2.1 hB hX hbl hbA hLn hcs h6 hI (fun I2 L2 hI2 => hend I2 L2 hI2))
      | 29, _, ej => zr_tsIn (tgt := 1238) (v := nI 29) hB ej dL_law_33 (by decide) (by decide) rfl (by decide) (lc_29 hS.2.2.2.2.2.2.2.2.2.2.2.2.2.2.2.2.2.2.2.2.2.2.2.2.2.2.2.2.2.1 hB hX hbl hbA hLn hcs h6 hI (fun I2 L2 hI2 => hend I2 L2 hI2))
      | 30, _, ej => zr_tsIn (tgt := 1281) (v := nI 30) hB ej dL_law_33 (by decide) (by decide) rfl (by decide) (lc_30 hS.2.2.2.2.2.2.2.2.2.2.2.2.2.2.2.2.2.2.2.2.2.2.2.2.2.2.2.2.2.2.1 hB hX hbl hbA hLn hcs h6 hI (fun I2 L2 hI2 => hend I2 L2 hI2))
      | 31, _, ej => zr_tsIn (tgt := 1315) (v := nI 31) hB ej dL_law_33 (by decide) (by decide) rfl (by decide) (lc_31 hS.2.2.2.2.2.2.2.2.2.2.2.2.2.2.2.2.2.2.2.2.2.2.2.2.2.2.2.2.2.2.2.1 hB hX hbl hbA hLn hcs h6 hI (fun I2 L2 hI2 => hend I2 L2 hI2))
      | 32, _, ej => zr_tsIn (tgt := 1349) (v := nI 32) hB ej dL_law_33 (by decide) (by decide) rfl (by decide) (lc_32 hS.2.2.2.2.2.2.2.2.2.2.2.2.2.2.2.2.2.2.2.2.2.2.2.2.2.2.2.2.2.2.2.2.1 hB hX hbl hbA hLn hcs h6 hI (fun I2 L2 hI2 => hend I2 L2 hI2))
      | 33, _, ej => zr_tsIn (tgt := 1393) (v := nI 33) hB ej dL_law_33 (by decide) (by decide) rfl (by decide) (lc_33 hS.2.2.2.2.2.2.2.2.2.2.2.2.2.2.2.2.2.2.2.2.2.2.2.2.2.2.2.2.2.2.2.2.2.1 hB hX hbl hbA hLn hcs h6 hI (fun I2 L2 hI2 => hend I2 L2 hI2))
      | 34, _, ej => zr_tsIn (tgt := 1426) (v := nI 34) hB ej dL_law_33 (by decide) (by decide) rfl (by decide) (lc_34 hS.2.2.2.2.2.2.2.2.2.2.2.2.2.2.2.2.2.2.2.2.2.2.2.2.2.2.2.2.2.2.2.2.2.2.1 hB hX hbl hbA hLn hcs h6 hI (fun I2 L2 hI2 => hend I2 L2 hI2))
      | 35, _, ej => zr_tsIn (tgt := 1449) (v := nI 35) hB ej dL_law_33 (by decide) (by decide) rfl (by decide) (lc_35 hS.2.2.2.2.2.2.2.2.2.2.2.2.2.2.2.2.2.2.2.2.2.2.2.2.2.2.2.2.2.2.2.2.2.2.2.1 hB hX hbl hbA hLn hcs h6 hI (fun I2 L2 hI2 => hend I2 L2 hI2))
      | 36, _, ej => zr_tsIn (tgt := 1482) (v := nI 36) hB ej dL_law_33 (by decide) (by decide) rfl (by decide) (lc_36 hS.2.2.2.2.2.2.2.2.2.2.2.2.2.2.2.2.2.2.2.2.2.2.2.2.2.2.2.2.2.2.2.2.2.2.2.2.1 hB hX hbl hbA hLn hcs h6 hI (fun I2 L2 hI2 => hend I2 L2 hI2))
      | 37, _, ej => zr_tsIn (tgt := 1515) (v := nI 37) hB ej dL_law_33 (by decide) (by decide) rfl (by decide) (lc_37 hS.2.2.2.2.2.2.2.2.2.2.2.2.2.2.2.2.2.2.2.2.2.2.2.2.2.2.2.2.2.2.2.2.2.2.2.2.2.1 hB hX hbl hbA hLn hcs h6 hI (fun I2 L2 hI2 => hend I2 L2 hI2))
      | 38, _, ej => zr_tsIn (tgt := 1538) (v := nI 38) hB ej dL_law_33 (by decide) (by decide) rfl (by decide) (lc_38 hS.2.2.2.2.2.2.2.2.2.2.2.2.2.2.2.2.2.2.2.2.2.2.2.2.2.2.2.2.2.2.2.2.2.2.2.2.2.2.1 hB hX hbl hbA hLn hcs h6 hI (fun I2 L2 hI2 => hend I2 L2 hI2))
      | 39, _, ej => zr_tsIn (tgt := 1571) (v := nI 39) hB ej dL_law_33 (by decide) (by decide) rfl (by decide) (lc_39 hS.2.2.2.2.2.2.2.2.2.2.2.2.2.2.2.2.2.2.2.2.2.2.2.2.2.2.2.2.2.2.2.2.2.2.2.2.2.2.2.1 hB hX hbl hbA hLn hcs h6 hI (fun I2 L2 hI2 => hend I2 L2 hI2))
      | 40, _, ej => zr_tsIn (tgt := 1584) (v := nI 40) hB ej dL_law_33 (by decide) (by decide) rfl (by decide) (lc_40 hS.2.2.2.2.2.2.2.2.2.2.2.2.2.2.2.2.2.2.2.2.2.2.2.2.2.2.2.2.2.2.2.2.2.2.2.2.2.2.2.2.1 hB hX hbl hbA hLn hcs h6 hI (fun I2 L2 hI2 => hend I2 L2 hI2))
      | 41, _, ej => zr_tsIn (tgt := 1597) (v := nI 41) hB ej dL_law_33 (by decide) (by decide) rfl (by decide) (lc_41 hS.2.2.2.2.2.2.2.2.2.2.2.2.2.2.2.2.2.2.2.2.2.2.2.2.2.2.2.2.2.2.2.2.2.2.2.2.2.2.2.2.2.1 hB hX hbl hbA hLn hcs h6 hI (fun I2 L2 hI2 => hend I2 L2 hI2))
      | 42, _, ej => zr_tsIn (tgt := 1630) (v := nI 42) hB ej dL_law_33 (by decide) (by decide) rfl (by decide) (lc_42 hS.2.2.2.2.2.2.2.2.2.2.2.2.2.2.2.2.2.2.2.2.2.2.2.2.2.2.2.2.2.2.2.2.2.2.2.2.2.2.2.2.2.2.1 hB hX hbl hbA hLn hcs h6 hI (fun I2 L2 hI2 => hend I2 L2 hI2))
      | 43, _, ej => zr_tsIn (tgt := 1663) (v := nI 43) hB ej dL_law_33 (by decide) (by decide) rfl (by decide) (lc_43 hS.2.2.2.2.2.2.2.2.2.2.2.2.2.2.2.2.2.2.2.2.2.2.2.2.2.2.2.2.2.2.2.2.2.2.2.2.2.2.2.2.2.2.2.1 hB hX hbl hbA hLn hcs h6 hI (fun I2 L2 hI2 => hend I2 L2 hI2))
      | 44, _, ej => zr_tsIn (tgt := 1706) (v := nI 44) hB ej dL_law_33 (by decide) (by decide) rfl (by decide) (lc_44 hS.2.2.2.2.2.2.2.2.2.2.2.2.2.2.2.2.2.2.2.2.2.2.2.2.2.2.2.2.2.2.2.2.2.2.2.2.2.2.2.2.2.2.2.2.1 hB hX hbl hbA hLn hcs h6 hI (fun I2 L2 hI2 => hend I2 L2 hI2))
      | 45, _, ej => zr_tsIn (tgt := 1749) (v := nI 45) hB ej dL_law_33 (by decide) (by decide) rfl (by decide) (lc_45 hS.2.2.2.2.2.2.2.2.2.2.2.2.2.2.2.2.2.2.2.2.2.2.2.2.2.2.2.2.2.2.2.2.2.2.2.2.2.2.2.2.2.2.2.2.2.1 hB hX hbl hbA hLn hcs h6 hI (fun I2 L2 hI2 => hend I2 L2 hI2))
      | 46, _, ej => zr_tsIn (tgt := 1812) (v := nI 46) hB ej dL_law_33 (by decide) (by decide) rfl (by decide) (lc_46 hS.2.2.2.2.2.2.2.2.2.2.2.2.2.2.2.2.2.2.2.2.2.2.2.2.2.2.2.2.2.2.2.2.2.2.2.2.2.2.2.2.2.2.2.2.2.2.1 hB hX hbl hbA hLn hcs h6 hI (fun I2 L2 hI2 => hend I2 L2 hI2))
      | 47, _, ej => zr_tsIn (tgt := 1835) (v := nI 47) hB ej dL_law_33 (by decide) (by decide) rfl (by decide) (lc_47 hS.2.2.2.2.2.2.2.2.2.2.2.2.2.2.2.2.2.2.2.2.2.2.2.2.2.2.2.2.2.2.2.2.2.2.2.2.2.2.2.2.2.2.2.2.2.2.2.1 hB hX hbl hbA hLn hcs h6 hI (fun I2 L2 hI2 => hend I2 L2 hI2))
      | 48, _, ej => zr_tsIn (tgt := 1868) (v := nI 48) hB ej dL_law_33 (by decide) (by decide) rfl (by decide) (lc_48 hS.2.2.2.2.2.2.2.2.2.2.2.2.2.2.2.2.2.2.2.2.2.2.2.2.2.2.2.2.2.2.2.2.2.2.2.2.2.2.2.2.2.2.2.2.2.2.2.2.1 hB hX hbl hbA hLn hcs h6 hI (fun I2 L2 hI2 => hend I2 L2 hI2))
      | 49, _, ej => zr_tsIn (tgt := 1881) (v := nI 49) hB ej dL_law_33 (by decide) (by decide) rfl (by decide) (lc_49 hS.2.2.2.2.2.2.2.2.2.2.2.2.2.2.2.2.2.2.2.2.2.2.2.2.2.2.2.2.2.2.2.2.2.2.2.2.2.2.2.2.2.2.2.2.2.2.2.2.2.1 hB hX hbl hbA hLn hcs h6 hI (fun I2 L2 hI2 => hend I2 L2 hI2))
      | 50, _, ej => zr_tsIn (tgt := 1894) (v := nI 50) hB ej dL_law_33 (by decide) (by decide) rfl (by decide) (lc_50 hS.2.2.2.2.2.2.2.2.2.2.2.2.2.2.2.2.2.2.2.2.2.2.2.2.2.2.2.2.2.2.2.2.2.2.2.2.2.2.2.2.2.2.2.2.2.2.2.2.2.2.1 hB hX hbl hbA hLn hcs h6 hI (fun I2 L2 hI2 => hend I2 L2 hI2))
      | 51, _, ej => zr_tsIn (tgt := 1907) (v := nI 51) hB ej dL_law_33 (by decide) (by decide) rfl (by decide) (lc_51 hS.2.2.2.2.2.2.2.2.2.2.2.2.2.2.2.2.2.2.2.2.2.2.2.2.2.2.2.2.2.2.2.2.2.2.2.2.2.2.2.2.2.2.2.2.2.2.2.2.2.2.2.1 hB hX hbl hbA hLn hcs h6 hI (fun I2 L2 hI2 => hend I2 L2 hI2))
      | 52, _, ej => zr_tsIn (tgt := 1930) (v := nI 52) hB ej dL_law_33 (by decide) (by decide) rfl (by decide) (lc_52 hS.2.2.2.2.2.2.2.2.2.2.2.2.2.2.2.2.2.2.2.2.2.2.2.2.2.2.2.2.2.2.2.2.2.2.2.2.2.2.2.2.2.2.2.2.2.2.2.2.2.2.2.2 hB hX hbl hbA hLn hcs h6 hI (fun I2 L2 hI2 => hend I2 L2 hI2))
      | j + 53, hj, ej => zr_tsOut (tgt := 1953) hB dL_law_33 (by rw [ej]; right; rw [nI_toInt (by omega)]; omega) (by decide) (hend I L hI)
end ZLAW
