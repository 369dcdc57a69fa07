theorem dX0_weightOf_0 : decode cX0_weightOf 0 = .ok (.iload_n 1, 1) := by decide +kernel
theorem dX0_weightOf_1 : decode cX0_weightOf 1 = .ok (.iload_n 2, 1) := by decide +kernel
theorem dX0_weightOf_2 : decode cX0_weightOf 2 = .ok (.ishr, 1) := by decide +kernel
theorem dX0_weightOf_3 : decode cX0_weightOf 3 = .ok (.istore_n 3, 1) := by decide +kernel
theorem dX0_weightOf_4 : decode cX0_weightOf 4 = .ok (.iload_n 0, 1) := by decide +kernel
theorem dX0_weightOf_5 : decode cX0_weightOf 5 = .ok (.tableswitch 63 1 6 #[39, 43, 49, 57, 59, 61], 39) := by decide +kernel
theorem dX0_weightOf_44 : decode cX0_weightOf 44 = .ok (.iload_n 3, 1) := by decide +kernel
theorem dX0_weightOf_45 : decode cX0_weightOf 45 = .ok (.iconst 1, 1) := by decide +kernel
theorem dX0_weightOf_46 : decode cX0_weightOf 46 = .ok (.iadd, 1) := by decide +kernel
theorem dX0_weightOf_47 : decode cX0_weightOf 47 = .ok (.ireturn, 1) := by decide +kernel
theorem dX0_weightOf_48 : decode cX0_weightOf 48 = .ok (.iconst 2, 1) := by decide +kernel
theorem dX0_weightOf_49 : decode cX0_weightOf 49 = .ok (.iload_n 3, 1) := by decide +kernel
theorem dX0_weightOf_50 : decode cX0_weightOf 50 = .ok (.iconst 1, 1) := by decide +kernel
theorem dX0_weightOf_51 : decode cX0_weightOf 51 = .ok (.iadd, 1) := by decide +kernel
theorem dX0_weightOf_52 : decode cX0_weightOf 52 = .ok (.imul, 1) := by decide +kernel
theorem dX0_weightOf_53 : decode cX0_weightOf 53 = .ok (.ireturn, 1) := by decide +kernel
theorem dX0_weightOf_54 : decode cX0_weightOf 54 = .ok (.iconst 2, 1) := by decide +kernel
theorem dX0_weightOf_55 : decode cX0_weightOf 55 = .ok (.iload_n 3, 1) := by decide +kernel
theorem dX0_weightOf_56 : decode cX0_weightOf 56 = .ok (.iconst 1, 1) := by decide +kernel
theorem dX0_weightOf_57 : decode cX0_weightOf 57 = .ok (.iadd, 1) := by decide +kernel
theorem dX0_weightOf_58 : decode cX0_weightOf 58 = .ok (.imul, 1) := by decide +kernel
theorem dX0_weightOf_59 : decode cX0_weightOf 59 = .ok (.iconst 5, 1) := by decide +kernel
theorem dX0_weightOf_60 : decode cX0_weightOf 60 = .ok (.iadd, 1) := by decide +kernel
theorem dX0_weightOf_61 : decode cX0_weightOf 61 = .ok (.ireturn, 1) := by decide +kernel
theorem dX0_weightOf_62 : decode cX0_weightOf 62 = .ok (.iconst 1, 1) := by decide +kernel
theorem dX0_weightOf_63 : decode cX0_weightOf 63 = .ok (.ireturn, 1) := by decide +kernel
theorem dX0_weightOf_64 : decode cX0_weightOf 64 = .ok (.iconst 0, 1) := by decide +kernel
theorem dX0_weightOf_65 : decode cX0_weightOf 65 = .ok (.ireturn, 1) := by decide +kernel
theorem dX0_weightOf_66 : decode cX0_weightOf 66 = .ok (.iload_n 1, 1) := by decide +kernel
theorem dX0_weightOf_67 : decode cX0_weightOf 67 = .ok (.ireturn, 1) := by decide +kernel
theorem dX0_weightOf_68 : decode cX0_weightOf 68 = .ok (.iload_n 3, 1) := by decide +kernel
theorem dX0_weightOf_69 : decode cX0_weightOf 69 = .ok (.ireturn, 1) := by decide +kernel
theorem dX0_isUnder_0 : decode cX0_isUnder 0 = .ok (.iload_n 0, 1) := by decide +kernel
theorem dX0_isUnder_1 : decode cX0_isUnder 1 = .ok (.istore_n 2, 1) := by decide +kernel
theorem dX0_isUnder_2 : decode cX0_isUnder 2 = .ok (.iconst 0, 1) := by decide +kernel
theorem dX0_isUnder_3 : decode cX0_isUnder 3 = .ok (.istore_n 3, 1) := by decide +kernel
theorem dX0_isUnder_4 : decode cX0_isUnder 4 = .ok (.iload_n 3, 1) := by decide +kernel
theorem dX0_isUnder_5 : decode cX0_isUnder 5 = .ok (.bipush 7, 2) := by decide +kernel
theorem dX0_isUnder_7 : decode cX0_isUnder 7 = .ok (.if_icmp .ge 23, 3) := by decide +kernel
theorem dX0_isUnder_10 : decode cX0_isUnder 10 = .ok (.iload_n 2, 1) := by decide +kernel
theorem dX0_isUnder_11 : decode cX0_isUnder 11 = .ok (.iload_n 1, 1) := by decide +kernel
theorem dX0_isUnder_12 : decode cX0_isUnder 12 = .ok (.if_icmp .eq 18, 3) := by decide +kernel
theorem dX0_isUnder_15 : decode cX0_isUnder 15 = .ok (.iload_n 2, 1) := by decide +kernel
theorem dX0_isUnder_16 : decode cX0_isUnder 16 = .ok (.ifCond .eq 14, 3) := by decide +kernel
theorem dX0_isUnder_19 : decode cX0_isUnder 19 = .ok (.iload_n 2, 1) := by decide +kernel
theorem dX0_isUnder_20 : decode cX0_isUnder 20 = .ok (.invokestatic 9, 3) := by decide +kernel
theorem dX0_isUnder_23 : decode cX0_isUnder 23 = .ok (.istore_n 2, 1) := by decide +kernel
theorem dX0_isUnder_24 : decode cX0_isUnder 24 = .ok (.iinc 3 1, 3) := by decide +kernel
theorem dX0_isUnder_27 : decode cX0_isUnder 27 = .ok (.goto (-23), 3) := by decide +kernel
theorem dX0_isUnder_30 : decode cX0_isUnder 30 = .ok (.iload_n 2, 1) := by decide +kernel
theorem dX0_isUnder_31 : decode cX0_isUnder 31 = .ok (.iload_n 1, 1) := by decide +kernel
theorem dX0_isUnder_32 : decode cX0_isUnder 32 = .ok (.if_icmp .ne 7, 3) := by decide +kernel
theorem dX0_isUnder_35 : decode cX0_isUnder 35 = .ok (.iconst 1, 1) := by decide +kernel
theorem dX0_isUnder_36 : decode cX0_isUnder 36 = .ok (.goto 4, 3) := by decide +kernel
theorem dX0_isUnder_39 : decode cX0_isUnder 39 = .ok (.iconst 0, 1) := by decide +kernel
theorem dX0_isUnder_40 : decode cX0_isUnder 40 = .ok (.ireturn, 1) := by decide +kernel
theorem dX0_kindAbove_0 : decode cX0_kindAbove 0 = .ok (.iload_n 0, 1) := by decide +kernel
theorem dX0_kindAbove_1 : decode cX0_kindAbove 1 = .ok (.tableswitch 37 2 5 #[31, 33, 37, 35], 31) := by decide +kernel
theorem dX0_kindAbove_32 : decode cX0_kindAbove 32 = .ok (.iconst 1, 1) := by decide +kernel
theorem dX0_kindAbove_33 : decode cX0_kindAbove 33 = .ok (.ireturn, 1) := by decide +kernel
theorem dX0_kindAbove_34 : decode cX0_kindAbove 34 = .ok (.iconst 2, 1) := by decide +kernel
theorem dX0_kindAbove_35 : decode cX0_kindAbove 35 = .ok (.ireturn, 1) := by decide +kernel
theorem dX0_kindAbove_36 : decode cX0_kindAbove 36 = .ok (.iconst 4, 1) := by decide +kernel
theorem dX0_kindAbove_37 : decode cX0_kindAbove 37 = .ok (.ireturn, 1) := by decide +kernel
theorem dX0_kindAbove_38 : decode cX0_kindAbove 38 = .ok (.iconst 0, 1) := by decide +kernel
theorem dX0_kindAbove_39 : decode cX0_kindAbove 39 = .ok (.ireturn, 1) := by decide +kernel
theorem dX1_init_0 : decode cX1_init 0 = .ok (.aload_n 0, 1) := by decide +kernel
theorem dX1_init_1 : decode cX1_init 1 = .ok (.invokespecial 3, 3) := by decide +kernel
theorem dX1_init_4 : decode cX1_init 4 = .ok (.aload_n 0, 1) := by decide +kernel
theorem dX1_init_5 : decode cX1_init 5 = .ok (.bipush 8, 2) := by decide +kernel
theorem dX1_init_7 : decode cX1_init 7 = .ok (.newarray .long, 2) := by decide +kernel
theorem dX1_init_9 : decode cX1_init 9 = .ok (.putfield 9, 3) := by decide +kernel
theorem dX1_init_12 : decode cX1_init 12 = .ok (.aload_n 0, 1) := by decide +kernel
theorem dX1_init_13 : decode cX1_init 13 = .ok (.bipush 8, 2) := by decide +kernel
theorem dX1_init_15 : decode cX1_init 15 = .ok (.newarray .long, 2) := by decide +kernel
theorem dX1_init_17 : decode cX1_init 17 = .ok (.putfield 15, 3) := by decide +kernel
theorem dX1_init_20 : decode cX1_init 20 = .ok (.aload_n 0, 1) := by decide +kernel
theorem dX1_init_21 : decode cX1_init 21 = .ok (.bipush 8, 2) := by decide +kernel
theorem dX1_init_23 : decode cX1_init 23 = .ok (.newarray .long, 2) := by decide +kernel
theorem dX1_init_25 : decode cX1_init 25 = .ok (.putfield 18, 3) := by decide +kernel
theorem dX1_init_28 : decode cX1_init 28 = .ok (.aload_n 0, 1) := by decide +kernel
theorem dX1_init_29 : decode cX1_init 29 = .ok (.bipush 8, 2) := by decide +kernel
theorem dX1_init_31 : decode cX1_init 31 = .ok (.newarray .int, 2) := by decide +kernel
theorem dX1_init_33 : decode cX1_init 33 = .ok (.putfield 21, 3) := by decide +kernel
theorem dX1_init_36 : decode cX1_init 36 = .ok (.return_, 1) := by decide +kernel
theorem dX1_placesFrom_0 : decode cX1_placesFrom 0 = .ok (.lconst 1, 1) := by decide +kernel
theorem dX1_placesFrom_1 : decode cX1_placesFrom 1 = .ok (.iload_n 2, 1) := by decide +kernel
theorem dX1_placesFrom_2 : decode cX1_placesFrom 2 = .ok (.lshl, 1) := by decide +kernel
theorem dX1_placesFrom_3 : decode cX1_placesFrom 3 = .ok (.lstore_n 3, 1) := by decide +kernel
theorem dX1_placesFrom_4 : decode cX1_placesFrom 4 = .ok (.lload_n 3, 1) := by decide +kernel
theorem dX1_placesFrom_5 : decode cX1_placesFrom 5 = .ok (.lstore 5, 2) := by decide +kernel
theorem dX1_placesFrom_7 : decode cX1_placesFrom 7 = .ok (.iconst 0, 1) := by decide +kernel
theorem dX1_placesFrom_8 : decode cX1_placesFrom 8 = .ok (.istore 7, 2) := by decide +kernel
theorem dX1_placesFrom_10 : decode cX1_placesFrom 10 = .ok (.iload 7, 2) := by decide +kernel
theorem dX1_placesFrom_12 : decode cX1_placesFrom 12 = .ok (.bipush 40, 2) := by decide +kernel
theorem dX1_placesFrom_14 : decode cX1_placesFrom 14 = .ok (.if_icmp .ge 35, 3) := by decide +kernel
theorem dX1_placesFrom_17 : decode cX1_placesFrom 17 = .ok (.lload 5, 2) := by decide +kernel
theorem dX1_placesFrom_19 : decode cX1_placesFrom 19 = .ok (.lconst 0, 1) := by decide +kernel
theorem dX1_placesFrom_20 : decode cX1_placesFrom 20 = .ok (.lcmp, 1) := by decide +kernel
theorem dX1_placesFrom_21 : decode cX1_placesFrom 21 = .ok (.ifCond .eq 28, 3) := by decide +kernel
theorem dX1_placesFrom_24 : decode cX1_placesFrom 24 = .ok (.aload_n 1, 1) := by decide +kernel
theorem dX1_placesFrom_25 : decode cX1_placesFrom 25 = .ok (.lload 5, 2) := by decide +kernel
theorem dX1_placesFrom_27 : decode cX1_placesFrom 27 = .ok (.invokevirtual 25, 3) := by decide +kernel
theorem dX1_placesFrom_30 : decode cX1_placesFrom 30 = .ok (.lload_n 3, 1) := by decide +kernel
theorem dX1_placesFrom_31 : decode cX1_placesFrom 31 = .ok (.ldc2_w 31, 3) := by decide +kernel
theorem dX1_placesFrom_34 : decode cX1_placesFrom 34 = .ok (.lxor, 1) := by decide +kernel
theorem dX1_placesFrom_35 : decode cX1_placesFrom 35 = .ok (.land, 1) := by decide +kernel
theorem dX1_placesFrom_36 : decode cX1_placesFrom 36 = .ok (.lstore 5, 2) := by decide +kernel
theorem dX1_placesFrom_38 : decode cX1_placesFrom 38 = .ok (.lload_n 3, 1) := by decide +kernel
theorem dX1_placesFrom_39 : decode cX1_placesFrom 39 = .ok (.lload 5, 2) := by decide +kernel
theorem dX1_placesFrom_41 : decode cX1_placesFrom 41 = .ok (.lor, 1) := by decide +kernel
theorem dX1_placesFrom_42 : decode cX1_placesFrom 42 = .ok (.lstore_n 3, 1) := by decide +kernel
theorem dX1_placesFrom_43 : decode cX1_placesFrom 43 = .ok (.iinc 7 1, 3) := by decide +kernel
theorem dX1_placesFrom_46 : decode cX1_placesFrom 46 = .ok (.goto (-36), 3) := by decide +kernel
theorem dX1_placesFrom_49 : decode cX1_placesFrom 49 = .ok (.lload_n 3, 1) := by decide +kernel
theorem dX1_placesFrom_50 : decode cX1_placesFrom 50 = .ok (.lreturn, 1) := by decide +kernel
theorem dX1_stepsTo_0 : decode cX1_stepsTo 0 = .ok (.lconst 1, 1) := by decide +kernel
theorem dX1_stepsTo_1 : decode cX1_stepsTo 1 = .ok (.iload_n 2, 1) := by decide +kernel
theorem dX1_stepsTo_2 : decode cX1_stepsTo 2 = .ok (.lshl, 1) := by decide +kernel
theorem dX1_stepsTo_3 : decode cX1_stepsTo 3 = .ok (.lstore 4, 2) := by decide +kernel
theorem dX1_stepsTo_5 : decode cX1_stepsTo 5 = .ok (.lload 4, 2) := by decide +kernel
theorem dX1_stepsTo_7 : decode cX1_stepsTo 7 = .ok (.lstore 6, 2) := by decide +kernel
theorem dX1_stepsTo_9 : decode cX1_stepsTo 9 = .ok (.iconst 0, 1) := by decide +kernel
theorem dX1_stepsTo_10 : decode cX1_stepsTo 10 = .ok (.istore 8, 2) := by decide +kernel
theorem dX1_stepsTo_12 : decode cX1_stepsTo 12 = .ok (.iload 8, 2) := by decide +kernel
theorem dX1_stepsTo_14 : decode cX1_stepsTo 14 = .ok (.bipush 40, 2) := by decide +kernel
theorem dX1_stepsTo_16 : decode cX1_stepsTo 16 = .ok (.if_icmp .ge 52, 3) := by decide +kernel
theorem dX1_stepsTo_19 : decode cX1_stepsTo 19 = .ok (.lload 6, 2) := by decide +kernel
theorem dX1_stepsTo_21 : decode cX1_stepsTo 21 = .ok (.lconst 0, 1) := by decide +kernel
theorem dX1_stepsTo_22 : decode cX1_stepsTo 22 = .ok (.lcmp, 1) := by decide +kernel
theorem dX1_stepsTo_23 : decode cX1_stepsTo 23 = .ok (.ifCond .eq 45, 3) := by decide +kernel
theorem dX1_stepsTo_26 : decode cX1_stepsTo 26 = .ok (.lload 6, 2) := by decide +kernel
theorem dX1_stepsTo_28 : decode cX1_stepsTo 28 = .ok (.iload_n 3, 1) := by decide +kernel
theorem dX1_stepsTo_29 : decode cX1_stepsTo 29 = .ok (.lushr, 1) := by decide +kernel
theorem dX1_stepsTo_30 : decode cX1_stepsTo 30 = .ok (.lconst 1, 1) := by decide +kernel
theorem dX1_stepsTo_31 : decode cX1_stepsTo 31 = .ok (.land, 1) := by decide +kernel
theorem dX1_stepsTo_32 : decode cX1_stepsTo 32 = .ok (.lconst 1, 1) := by decide +kernel
theorem dX1_stepsTo_33 : decode cX1_stepsTo 33 = .ok (.lcmp, 1) := by decide +kernel
theorem dX1_stepsTo_34 : decode cX1_stepsTo 34 = .ok (.ifCond .ne 6, 3) := by decide +kernel
theorem dX1_stepsTo_37 : decode cX1_stepsTo 37 = .ok (.iload 8, 2) := by decide +kernel
theorem dX1_stepsTo_39 : decode cX1_stepsTo 39 = .ok (.ireturn, 1) := by decide +kernel
theorem dX1_stepsTo_40 : decode cX1_stepsTo 40 = .ok (.aload_n 1, 1) := by decide +kernel
theorem dX1_stepsTo_41 : decode cX1_stepsTo 41 = .ok (.lload 6, 2) := by decide +kernel
theorem dX1_stepsTo_43 : decode cX1_stepsTo 43 = .ok (.invokevirtual 25, 3) := by decide +kernel
theorem dX1_stepsTo_46 : decode cX1_stepsTo 46 = .ok (.lload 4, 2) := by decide +kernel
theorem dX1_stepsTo_48 : decode cX1_stepsTo 48 = .ok (.ldc2_w 31, 3) := by decide +kernel
theorem dX1_stepsTo_51 : decode cX1_stepsTo 51 = .ok (.lxor, 1) := by decide +kernel
theorem dX1_stepsTo_52 : decode cX1_stepsTo 52 = .ok (.land, 1) := by decide +kernel
theorem dX1_stepsTo_53 : decode cX1_stepsTo 53 = .ok (.lstore 6, 2) := by decide +kernel
theorem dX1_stepsTo_55 : decode cX1_stepsTo 55 = .ok (.lload 4, 2) := by decide +kernel
theorem dX1_stepsTo_57 : decode cX1_stepsTo 57 = .ok (.lload 6, 2) := by decide +kernel
theorem dX1_stepsTo_59 : decode cX1_stepsTo 59 = .ok (.lor, 1) := by decide +kernel
theorem dX1_stepsTo_60 : decode cX1_stepsTo 60 = .ok (.lstore 4, 2) := by decide +kernel
theorem dX1_stepsTo_62 : decode cX1_stepsTo 62 = .ok (.iinc 8 1, 3) := by decide +kernel
theorem dX1_stepsTo_65 : decode cX1_stepsTo 65 = .ok (.goto (-53), 3) := by decide +kernel
theorem dX1_stepsTo_68 : decode cX1_stepsTo 68 = .ok (.iconst (-1), 1) := by decide +kernel
theorem dX1_stepsTo_69 : decode cX1_stepsTo 69 = .ok (.ireturn, 1) := by decide +kernel
theorem dX1_fewestFor_0 : decode cX1_fewestFor 0 = .ok (.aload_n 0, 1) := by decide +kernel
theorem dX1_fewestFor_1 : decode cX1_fewestFor 1 = .ok (.aload_n 1, 1) := by decide +kernel
theorem dX1_fewestFor_2 : decode cX1_fewestFor 2 = .ok (.iload_n 2, 1) := by decide +kernel
theorem dX1_fewestFor_3 : decode cX1_fewestFor 3 = .ok (.iload_n 3, 1) := by decide +kernel
theorem dX1_fewestFor_4 : decode cX1_fewestFor 4 = .ok (.iload 4, 2) := by decide +kernel
theorem dX1_fewestFor_6 : decode cX1_fewestFor 6 = .ok (.iconst 1, 1) := by decide +kernel
theorem dX1_fewestFor_7 : decode cX1_fewestFor 7 = .ok (.invokevirtual 33, 3) := by decide +kernel
theorem dX1_fewestFor_10 : decode cX1_fewestFor 10 = .ok (.aload_n 0, 1) := by decide +kernel
theorem dX1_fewestFor_11 : decode cX1_fewestFor 11 = .ok (.getfield 21, 3) := by decide +kernel
theorem dX1_fewestFor_14 : decode cX1_fewestFor 14 = .ok (.iload 4, 2) := by decide +kernel
theorem dX1_fewestFor_16 : decode cX1_fewestFor 16 = .ok (.iaload, 1) := by decide +kernel
theorem dX1_fewestFor_17 : decode cX1_fewestFor 17 = .ok (.ireturn, 1) := by decide +kernel
theorem dX1_roomsFor_0 : decode cX1_roomsFor 0 = .ok (.aload_n 0, 1) := by decide +kernel
theorem dX1_roomsFor_1 : decode cX1_roomsFor 1 = .ok (.aload_n 1, 1) := by decide +kernel
theorem dX1_roomsFor_2 : decode cX1_roomsFor 2 = .ok (.iload_n 2, 1) := by decide +kernel
theorem dX1_roomsFor_3 : decode cX1_roomsFor 3 = .ok (.iload_n 3, 1) := by decide +kernel
theorem dX1_roomsFor_4 : decode cX1_roomsFor 4 = .ok (.iconst (-1), 1) := by decide +kernel
theorem dX1_roomsFor_5 : decode cX1_roomsFor 5 = .ok (.iload 4, 2) := by decide +kernel
theorem dX1_roomsFor_7 : decode cX1_roomsFor 7 = .ok (.invokevirtual 33, 3) := by decide +kernel
theorem dX1_roomsFor_10 : decode cX1_roomsFor 10 = .ok (.iconst 0, 1) := by decide +kernel
theorem dX1_roomsFor_11 : decode cX1_roomsFor 11 = .ok (.istore 5, 2) := by decide +kernel
theorem dX1_roomsFor_13 : decode cX1_roomsFor 13 = .ok (.iconst 0, 1) := by decide +kernel
theorem dX1_roomsFor_14 : decode cX1_roomsFor 14 = .ok (.istore 6, 2) := by decide +kernel
theorem dX1_roomsFor_16 : decode cX1_roomsFor 16 = .ok (.iload 6, 2) := by decide +kernel
theorem dX1_roomsFor_18 : decode cX1_roomsFor 18 = .ok (.bipush 8, 2) := by decide +kernel
theorem dX1_roomsFor_20 : decode cX1_roomsFor 20 = .ok (.if_icmp .ge 29, 3) := by decide +kernel
theorem dX1_roomsFor_23 : decode cX1_roomsFor 23 = .ok (.aload_n 0, 1) := by decide +kernel
theorem dX1_roomsFor_24 : decode cX1_roomsFor 24 = .ok (.getfield 21, 3) := by decide +kernel
theorem dX1_roomsFor_27 : decode cX1_roomsFor 27 = .ok (.iload 6, 2) := by decide +kernel
theorem dX1_roomsFor_29 : decode cX1_roomsFor 29 = .ok (.iaload, 1) := by decide +kernel
theorem dX1_roomsFor_30 : decode cX1_roomsFor 30 = .ok (.iconst (-1), 1) := by decide +kernel
theorem dX1_roomsFor_31 : decode cX1_roomsFor 31 = .ok (.if_icmp .eq 12, 3) := by decide +kernel
theorem dX1_roomsFor_34 : decode cX1_roomsFor 34 = .ok (.iload 5, 2) := by decide +kernel
theorem dX1_roomsFor_36 : decode cX1_roomsFor 36 = .ok (.iconst 1, 1) := by decide +kernel
theorem dX1_roomsFor_37 : decode cX1_roomsFor 37 = .ok (.iload 6, 2) := by decide +kernel
theorem dX1_roomsFor_39 : decode cX1_roomsFor 39 = .ok (.ishl, 1) := by decide +kernel
theorem dX1_roomsFor_40 : decode cX1_roomsFor 40 = .ok (.ior, 1) := by decide +kernel
theorem dX1_roomsFor_41 : decode cX1_roomsFor 41 = .ok (.istore 5, 2) := by decide +kernel
theorem dX1_roomsFor_43 : decode cX1_roomsFor 43 = .ok (.iinc 6 1, 3) := by decide +kernel
theorem dX1_roomsFor_46 : decode cX1_roomsFor 46 = .ok (.goto (-30), 3) := by decide +kernel
theorem dX1_roomsFor_49 : decode cX1_roomsFor 49 = .ok (.iload 5, 2) := by decide +kernel
theorem dX1_roomsFor_51 : decode cX1_roomsFor 51 = .ok (.ireturn, 1) := by decide +kernel
theorem dX1_explore_0 : decode cX1_explore 0 = .ok (.aload_n 0, 1) := by decide +kernel
theorem dX1_explore_1 : decode cX1_explore 1 = .ok (.getfield 9, 3) := by decide +kernel
theorem dX1_explore_4 : decode cX1_explore 4 = .ok (.lconst 0, 1) := by decide +kernel
theorem dX1_explore_5 : decode cX1_explore 5 = .ok (.invokestatic 37, 3) := by decide +kernel
theorem dX1_explore_8 : decode cX1_explore 8 = .ok (.aload_n 0, 1) := by decide +kernel
theorem dX1_explore_9 : decode cX1_explore 9 = .ok (.getfield 18, 3) := by decide +kernel
theorem dX1_explore_12 : decode cX1_explore 12 = .ok (.lconst 0, 1) := by decide +kernel
theorem dX1_explore_13 : decode cX1_explore 13 = .ok (.invokestatic 37, 3) := by decide +kernel
theorem dX1_explore_16 : decode cX1_explore 16 = .ok (.aload_n 0, 1) := by decide +kernel
theorem dX1_explore_17 : decode cX1_explore 17 = .ok (.getfield 21, 3) := by decide +kernel
theorem dX1_explore_20 : decode cX1_explore 20 = .ok (.iconst (-1), 1) := by decide +kernel
theorem dX1_explore_21 : decode cX1_explore 21 = .ok (.invokestatic 43, 3) := by decide +kernel
theorem dX1_explore_24 : decode cX1_explore 24 = .ok (.aload_n 0, 1) := by decide +kernel
theorem dX1_explore_25 : decode cX1_explore 25 = .ok (.getfield 18, 3) := by decide +kernel
theorem dX1_explore_28 : decode cX1_explore 28 = .ok (.aload_n 1, 1) := by decide +kernel
theorem dX1_explore_29 : decode cX1_explore 29 = .ok (.getfield 46, 3) := by decide +kernel
theorem dX1_explore_32 : decode cX1_explore 32 = .ok (.iload_n 3, 1) := by decide +kernel
theorem dX1_explore_33 : decode cX1_explore 33 = .ok (.iaload, 1) := by decide +kernel
theorem dX1_explore_34 : decode cX1_explore 34 = .ok (.lconst 1, 1) := by decide +kernel
theorem dX1_explore_35 : decode cX1_explore 35 = .ok (.aload_n 1, 1) := by decide +kernel
theorem dX1_explore_36 : decode cX1_explore 36 = .ok (.getfield 49, 3) := by decide +kernel
theorem dX1_explore_39 : decode cX1_explore 39 = .ok (.iload_n 2, 1) := by decide +kernel
theorem dX1_explore_40 : decode cX1_explore 40 = .ok (.iaload, 1) := by decide +kernel
theorem dX1_explore_41 : decode cX1_explore 41 = .ok (.lshl, 1) := by decide +kernel
theorem dX1_explore_42 : decode cX1_explore 42 = .ok (.lastore, 1) := by decide +kernel
theorem dX1_explore_43 : decode cX1_explore 43 = .ok (.aload_n 1, 1) := by decide +kernel
theorem dX1_explore_44 : decode cX1_explore 44 = .ok (.iload_n 2, 1) := by decide +kernel
theorem dX1_explore_45 : decode cX1_explore 45 = .ok (.iload_n 3, 1) := by decide +kernel
theorem dX1_explore_46 : decode cX1_explore 46 = .ok (.invokevirtual 52, 3) := by decide +kernel
theorem dX1_explore_49 : decode cX1_explore 49 = .ok (.lstore 6, 2) := by decide +kernel
theorem dX1_explore_51 : decode cX1_explore 51 = .ok (.iconst 0, 1) := by decide +kernel
theorem dX1_explore_52 : decode cX1_explore 52 = .ok (.istore 8, 2) := by decide +kernel
theorem dX1_explore_54 : decode cX1_explore 54 = .ok (.iload 8, 2) := by decide +kernel
theorem dX1_explore_56 : decode cX1_explore 56 = .ok (.sipush 320, 3) := by decide +kernel
theorem dX1_explore_59 : decode cX1_explore 59 = .ok (.if_icmp .ge 79, 3) := by decide +kernel
theorem dX1_explore_62 : decode cX1_explore 62 = .ok (.aload_n 0, 1) := by decide +kernel
theorem dX1_explore_63 : decode cX1_explore 63 = .ok (.iload 8, 2) := by decide +kernel
theorem dX1_explore_65 : decode cX1_explore 65 = .ok (.invokevirtual 56, 3) := by decide +kernel
theorem dX1_explore_68 : decode cX1_explore 68 = .ok (.istore 9, 2) := by decide +kernel
theorem dX1_explore_70 : decode cX1_explore 70 = .ok (.iload 9, 2) := by decide +kernel
theorem dX1_explore_72 : decode cX1_explore 72 = .ok (.ifCond .eq 20, 3) := by decide +kernel
theorem dX1_explore_75 : decode cX1_explore 75 = .ok (.iload 4, 2) := by decide +kernel
theorem dX1_explore_77 : decode cX1_explore 77 = .ok (.iconst (-1), 1) := by decide +kernel
theorem dX1_explore_78 : decode cX1_explore 78 = .ok (.if_icmp .eq 15, 3) := by decide +kernel
theorem dX1_explore_81 : decode cX1_explore 81 = .ok (.aload_n 0, 1) := by decide +kernel
theorem dX1_explore_82 : decode cX1_explore 82 = .ok (.getfield 21, 3) := by decide +kernel
theorem dX1_explore_85 : decode cX1_explore 85 = .ok (.iload 4, 2) := by decide +kernel
theorem dX1_explore_87 : decode cX1_explore 87 = .ok (.iaload, 1) := by decide +kernel
theorem dX1_explore_88 : decode cX1_explore 88 = .ok (.iconst (-1), 1) := by decide +kernel
theorem dX1_explore_89 : decode cX1_explore 89 = .ok (.if_icmp .eq 4, 3) := by decide +kernel
theorem dX1_explore_92 : decode cX1_explore 92 = .ok (.return_, 1) := by decide +kernel
theorem dX1_explore_93 : decode cX1_explore 93 = .ok (.iconst 0, 1) := by decide +kernel
theorem dX1_explore_94 : decode cX1_explore 94 = .ok (.istore 10, 2) := by decide +kernel
theorem dX1_explore_96 : decode cX1_explore 96 = .ok (.iload 10, 2) := by decide +kernel
theorem dX1_explore_98 : decode cX1_explore 98 = .ok (.bipush 8, 2) := by decide +kernel
theorem dX1_explore_100 : decode cX1_explore 100 = .ok (.if_icmp .ge 32, 3) := by decide +kernel
theorem dX1_explore_103 : decode cX1_explore 103 = .ok (.aload_n 0, 1) := by decide +kernel
theorem dX1_explore_104 : decode cX1_explore 104 = .ok (.getfield 15, 3) := by decide +kernel
theorem dX1_explore_107 : decode cX1_explore 107 = .ok (.iload 10, 2) := by decide +kernel
theorem dX1_explore_109 : decode cX1_explore 109 = .ok (.laload, 1) := by decide +kernel
theorem dX1_explore_110 : decode cX1_explore 110 = .ok (.lconst 0, 1) := by decide +kernel
theorem dX1_explore_111 : decode cX1_explore 111 = .ok (.lcmp, 1) := by decide +kernel
theorem dX1_explore_112 : decode cX1_explore 112 = .ok (.ifCond .eq 14, 3) := by decide +kernel
theorem dX1_explore_115 : decode cX1_explore 115 = .ok (.aload_n 0, 1) := by decide +kernel
theorem dX1_explore_116 : decode cX1_explore 116 = .ok (.aload_n 1, 1) := by decide +kernel
theorem dX1_explore_117 : decode cX1_explore 117 = .ok (.iload 10, 2) := by decide +kernel
theorem dX1_explore_119 : decode cX1_explore 119 = .ok (.lload 6, 2) := by decide +kernel
theorem dX1_explore_121 : decode cX1_explore 121 = .ok (.iload 5, 2) := by decide +kernel
theorem dX1_explore_123 : decode cX1_explore 123 = .ok (.invokevirtual 60, 3) := by decide +kernel
theorem dX1_explore_126 : decode cX1_explore 126 = .ok (.iinc 10 1, 3) := by decide +kernel
theorem dX1_explore_129 : decode cX1_explore 129 = .ok (.goto (-33), 3) := by decide +kernel
theorem dX1_explore_132 : decode cX1_explore 132 = .ok (.iinc 8 1, 3) := by decide +kernel
theorem dX1_explore_135 : decode cX1_explore 135 = .ok (.goto (-81), 3) := by decide +kernel
theorem dX1_explore_138 : decode cX1_explore 138 = .ok (.return_, 1) := by decide +kernel
theorem dX1_settle_0 : decode cX1_settle 0 = .ok (.iconst 0, 1) := by decide +kernel
theorem dX1_settle_1 : decode cX1_settle 1 = .ok (.istore_n 2, 1) := by decide +kernel
theorem dX1_settle_2 : decode cX1_settle 2 = .ok (.iconst 0, 1) := by decide +kernel
theorem dX1_settle_3 : decode cX1_settle 3 = .ok (.istore_n 3, 1) := by decide +kernel
theorem dX1_settle_4 : decode cX1_settle 4 = .ok (.iload_n 3, 1) := by decide +kernel
theorem dX1_settle_5 : decode cX1_settle 5 = .ok (.bipush 8, 2) := by decide +kernel
theorem dX1_settle_7 : decode cX1_settle 7 = .ok (.if_icmp .ge 84, 3) := by decide +kernel
theorem dX1_settle_10 : decode cX1_settle 10 = .ok (.aload_n 0, 1) := by decide +kernel
theorem dX1_settle_11 : decode cX1_settle 11 = .ok (.getfield 15, 3) := by decide +kernel
theorem dX1_settle_14 : decode cX1_settle 14 = .ok (.iload_n 3, 1) := by decide +kernel
theorem dX1_settle_15 : decode cX1_settle 15 = .ok (.aload_n 0, 1) := by decide +kernel
theorem dX1_settle_16 : decode cX1_settle 16 = .ok (.getfield 18, 3) := by decide +kernel
theorem dX1_settle_19 : decode cX1_settle 19 = .ok (.iload_n 3, 1) := by decide +kernel
theorem dX1_settle_20 : decode cX1_settle 20 = .ok (.laload, 1) := by decide +kernel
theorem dX1_settle_21 : decode cX1_settle 21 = .ok (.aload_n 0, 1) := by decide +kernel
theorem dX1_settle_22 : decode cX1_settle 22 = .ok (.getfield 9, 3) := by decide +kernel
theorem dX1_settle_25 : decode cX1_settle 25 = .ok (.iload_n 3, 1) := by decide +kernel
theorem dX1_settle_26 : decode cX1_settle 26 = .ok (.laload, 1) := by decide +kernel
theorem dX1_settle_27 : decode cX1_settle 27 = .ok (.ldc2_w 31, 3) := by decide +kernel
theorem dX1_settle_30 : decode cX1_settle 30 = .ok (.lxor, 1) := by decide +kernel
theorem dX1_settle_31 : decode cX1_settle 31 = .ok (.land, 1) := by decide +kernel
theorem dX1_settle_32 : decode cX1_settle 32 = .ok (.lastore, 1) := by decide +kernel
theorem dX1_settle_33 : decode cX1_settle 33 = .ok (.aload_n 0, 1) := by decide +kernel
theorem dX1_settle_34 : decode cX1_settle 34 = .ok (.getfield 9, 3) := by decide +kernel
theorem dX1_settle_37 : decode cX1_settle 37 = .ok (.iload_n 3, 1) := by decide +kernel
theorem dX1_settle_38 : decode cX1_settle 38 = .ok (.dup2, 1) := by decide +kernel
theorem dX1_settle_39 : decode cX1_settle 39 = .ok (.laload, 1) := by decide +kernel
theorem dX1_settle_40 : decode cX1_settle 40 = .ok (.aload_n 0, 1) := by decide +kernel
theorem dX1_settle_41 : decode cX1_settle 41 = .ok (.getfield 15, 3) := by decide +kernel
theorem dX1_settle_44 : decode cX1_settle 44 = .ok (.iload_n 3, 1) := by decide +kernel
theorem dX1_settle_45 : decode cX1_settle 45 = .ok (.laload, 1) := by decide +kernel
theorem dX1_settle_46 : decode cX1_settle 46 = .ok (.lor, 1) := by decide +kernel
theorem dX1_settle_47 : decode cX1_settle 47 = .ok (.lastore, 1) := by decide +kernel
theorem dX1_settle_48 : decode cX1_settle 48 = .ok (.aload_n 0, 1) := by decide +kernel
theorem dX1_settle_49 : decode cX1_settle 49 = .ok (.getfield 18, 3) := by decide +kernel
theorem dX1_settle_52 : decode cX1_settle 52 = .ok (.iload_n 3, 1) := by decide +kernel
theorem dX1_settle_53 : decode cX1_settle 53 = .ok (.lconst 0, 1) := by decide +kernel
theorem dX1_settle_54 : decode cX1_settle 54 = .ok (.lastore, 1) := by decide +kernel
theorem dX1_settle_55 : decode cX1_settle 55 = .ok (.aload_n 0, 1) := by decide +kernel
theorem dX1_settle_56 : decode cX1_settle 56 = .ok (.getfield 15, 3) := by decide +kernel
theorem dX1_settle_59 : decode cX1_settle 59 = .ok (.iload_n 3, 1) := by decide +kernel
theorem dX1_settle_60 : decode cX1_settle 60 = .ok (.laload, 1) := by decide +kernel
theorem dX1_settle_61 : decode cX1_settle 61 = .ok (.lconst 0, 1) := by decide +kernel
theorem dX1_settle_62 : decode cX1_settle 62 = .ok (.lcmp, 1) := by decide +kernel
theorem dX1_settle_63 : decode cX1_settle 63 = .ok (.ifCond .eq 22, 3) := by decide +kernel
theorem dX1_settle_66 : decode cX1_settle 66 = .ok (.iconst 1, 1) := by decide +kernel
theorem dX1_settle_67 : decode cX1_settle 67 = .ok (.istore_n 2, 1) := by decide +kernel
theorem dX1_settle_68 : decode cX1_settle 68 = .ok (.aload_n 0, 1) := by decide +kernel
theorem dX1_settle_69 : decode cX1_settle 69 = .ok (.getfield 21, 3) := by decide +kernel
theorem dX1_settle_72 : decode cX1_settle 72 = .ok (.iload_n 3, 1) := by decide +kernel
theorem dX1_settle_73 : decode cX1_settle 73 = .ok (.iaload, 1) := by decide +kernel
theorem dX1_settle_74 : decode cX1_settle 74 = .ok (.iconst (-1), 1) := by decide +kernel
theorem dX1_settle_75 : decode cX1_settle 75 = .ok (.if_icmp .ne 10, 3) := by decide +kernel
theorem dX1_settle_78 : decode cX1_settle 78 = .ok (.aload_n 0, 1) := by decide +kernel
theorem dX1_settle_79 : decode cX1_settle 79 = .ok (.getfield 21, 3) := by decide +kernel
theorem dX1_settle_82 : decode cX1_settle 82 = .ok (.iload_n 3, 1) := by decide +kernel
theorem dX1_settle_83 : decode cX1_settle 83 = .ok (.iload_n 1, 1) := by decide +kernel
theorem dX1_settle_84 : decode cX1_settle 84 = .ok (.iastore, 1) := by decide +kernel
theorem dX1_settle_85 : decode cX1_settle 85 = .ok (.iinc 3 1, 3) := by decide +kernel
theorem dX1_settle_88 : decode cX1_settle 88 = .ok (.goto (-84), 3) := by decide +kernel
theorem dX1_settle_91 : decode cX1_settle 91 = .ok (.iload_n 2, 1) := by decide +kernel
theorem dX1_settle_92 : decode cX1_settle 92 = .ok (.ireturn, 1) := by decide +kernel
theorem dX1_spread_0 : decode cX1_spread 0 = .ok (.aload_n 0, 1) := by decide +kernel
theorem dX1_spread_1 : decode cX1_spread 1 = .ok (.getfield 18, 3) := by decide +kernel
theorem dX1_spread_4 : decode cX1_spread 4 = .ok (.iload_n 2, 1) := by decide +kernel
theorem dX1_spread_5 : decode cX1_spread 5 = .ok (.dup2, 1) := by decide +kernel
theorem dX1_spread_6 : decode cX1_spread 6 = .ok (.laload, 1) := by decide +kernel
theorem dX1_spread_7 : decode cX1_spread 7 = .ok (.aload_n 1, 1) := by decide +kernel
theorem dX1_spread_8 : decode cX1_spread 8 = .ok (.aload_n 0, 1) := by decide +kernel
theorem dX1_spread_9 : decode cX1_spread 9 = .ok (.getfield 15, 3) := by decide +kernel
theorem dX1_spread_12 : decode cX1_spread 12 = .ok (.iload_n 2, 1) := by decide +kernel
theorem dX1_spread_13 : decode cX1_spread 13 = .ok (.laload, 1) := by decide +kernel
theorem dX1_spread_14 : decode cX1_spread 14 = .ok (.invokevirtual 25, 3) := by decide +kernel
theorem dX1_spread_17 : decode cX1_spread 17 = .ok (.lor, 1) := by decide +kernel
theorem dX1_spread_18 : decode cX1_spread 18 = .ok (.lastore, 1) := by decide +kernel
theorem dX1_spread_19 : decode cX1_spread 19 = .ok (.aload_n 0, 1) := by decide +kernel
theorem dX1_spread_20 : decode cX1_spread 20 = .ok (.getfield 15, 3) := by decide +kernel
theorem dX1_spread_23 : decode cX1_spread 23 = .ok (.iload_n 2, 1) := by decide +kernel
theorem dX1_spread_24 : decode cX1_spread 24 = .ok (.laload, 1) := by decide +kernel
theorem dX1_spread_25 : decode cX1_spread 25 = .ok (.iload_n 2, 1) := by decide +kernel
theorem dX1_spread_26 : decode cX1_spread 26 = .ok (.lushr, 1) := by decide +kernel
theorem dX1_spread_27 : decode cX1_spread 27 = .ok (.lload_n 3, 1) := by decide +kernel
theorem dX1_spread_28 : decode cX1_spread 28 = .ok (.land, 1) := by decide +kernel
theorem dX1_spread_29 : decode cX1_spread 29 = .ok (.lstore 6, 2) := by decide +kernel
theorem dX1_spread_31 : decode cX1_spread 31 = .ok (.iload 5, 2) := by decide +kernel
theorem dX1_spread_33 : decode cX1_spread 33 = .ok (.ifCond .eq 22, 3) := by decide +kernel
theorem dX1_spread_36 : decode cX1_spread 36 = .ok (.aload_n 0, 1) := by decide +kernel
theorem dX1_spread_37 : decode cX1_spread 37 = .ok (.getfield 15, 3) := by decide +kernel
theorem dX1_spread_40 : decode cX1_spread 40 = .ok (.iload_n 2, 1) := by decide +kernel
theorem dX1_spread_41 : decode cX1_spread 41 = .ok (.laload, 1) := by decide +kernel
theorem dX1_spread_42 : decode cX1_spread 42 = .ok (.aload_n 1, 1) := by decide +kernel
theorem dX1_spread_43 : decode cX1_spread 43 = .ok (.getfield 64, 3) := by decide +kernel
theorem dX1_spread_46 : decode cX1_spread 46 = .ok (.lushr, 1) := by decide +kernel
theorem dX1_spread_47 : decode cX1_spread 47 = .ok (.lload_n 3, 1) := by decide +kernel
theorem dX1_spread_48 : decode cX1_spread 48 = .ok (.bipush 8, 2) := by decide +kernel
theorem dX1_spread_50 : decode cX1_spread 50 = .ok (.lushr, 1) := by decide +kernel
theorem dX1_spread_51 : decode cX1_spread 51 = .ok (.land, 1) := by decide +kernel
theorem dX1_spread_52 : decode cX1_spread 52 = .ok (.goto 4, 3) := by decide +kernel
theorem dX1_spread_55 : decode cX1_spread 55 = .ok (.lconst 0, 1) := by decide +kernel
theorem dX1_spread_56 : decode cX1_spread 56 = .ok (.lstore 8, 2) := by decide +kernel
theorem dX1_spread_58 : decode cX1_spread 58 = .ok (.iconst 0, 1) := by decide +kernel
theorem dX1_spread_59 : decode cX1_spread 59 = .ok (.istore 10, 2) := by decide +kernel
theorem dX1_spread_61 : decode cX1_spread 61 = .ok (.iload 10, 2) := by decide +kernel
theorem dX1_spread_63 : decode cX1_spread 63 = .ok (.bipush 8, 2) := by decide +kernel
theorem dX1_spread_65 : decode cX1_spread 65 = .ok (.if_icmp .ge 51, 3) := by decide +kernel
theorem dX1_spread_68 : decode cX1_spread 68 = .ok (.aload_n 1, 1) := by decide +kernel
theorem dX1_spread_69 : decode cX1_spread 69 = .ok (.iload_n 2, 1) := by decide +kernel
theorem dX1_spread_70 : decode cX1_spread 70 = .ok (.iload 10, 2) := by decide +kernel
theorem dX1_spread_72 : decode cX1_spread 72 = .ok (.invokevirtual 68, 3) := by decide +kernel
theorem dX1_spread_75 : decode cX1_spread 75 = .ok (.ifCond .eq 18, 3) := by decide +kernel
theorem dX1_spread_78 : decode cX1_spread 78 = .ok (.aload_n 0, 1) := by decide +kernel
theorem dX1_spread_79 : decode cX1_spread 79 = .ok (.getfield 18, 3) := by decide +kernel
theorem dX1_spread_82 : decode cX1_spread 82 = .ok (.iload 10, 2) := by decide +kernel
theorem dX1_spread_84 : decode cX1_spread 84 = .ok (.dup2, 1) := by decide +kernel
theorem dX1_spread_85 : decode cX1_spread 85 = .ok (.laload, 1) := by decide +kernel
theorem dX1_spread_86 : decode cX1_spread 86 = .ok (.lload 6, 2) := by decide +kernel
theorem dX1_spread_88 : decode cX1_spread 88 = .ok (.iload 10, 2) := by decide +kernel
theorem dX1_spread_90 : decode cX1_spread 90 = .ok (.lshl, 1) := by decide +kernel
theorem dX1_spread_91 : decode cX1_spread 91 = .ok (.lor, 1) := by decide +kernel
theorem dX1_spread_92 : decode cX1_spread 92 = .ok (.lastore, 1) := by decide +kernel
theorem dX1_spread_93 : decode cX1_spread 93 = .ok (.aload_n 0, 1) := by decide +kernel
theorem dX1_spread_94 : decode cX1_spread 94 = .ok (.getfield 18, 3) := by decide +kernel
theorem dX1_spread_97 : decode cX1_spread 97 = .ok (.iload 10, 2) := by decide +kernel
theorem dX1_spread_99 : decode cX1_spread 99 = .ok (.dup2, 1) := by decide +kernel
theorem dX1_spread_100 : decode cX1_spread 100 = .ok (.laload, 1) := by decide +kernel
theorem dX1_spread_101 : decode cX1_spread 101 = .ok (.lload 8, 2) := by decide +kernel
theorem dX1_spread_103 : decode cX1_spread 103 = .ok (.aload_n 1, 1) := by decide +kernel
theorem dX1_spread_104 : decode cX1_spread 104 = .ok (.getfield 64, 3) := by decide +kernel
theorem dX1_spread_107 : decode cX1_spread 107 = .ok (.lshl, 1) := by decide +kernel
theorem dX1_spread_108 : decode cX1_spread 108 = .ok (.lor, 1) := by decide +kernel
theorem dX1_spread_109 : decode cX1_spread 109 = .ok (.lastore, 1) := by decide +kernel
theorem dX1_spread_110 : decode cX1_spread 110 = .ok (.iinc 10 1, 3) := by decide +kernel
theorem dX1_spread_113 : decode cX1_spread 113 = .ok (.goto (-52), 3) := by decide +kernel
theorem dX1_spread_116 : decode cX1_spread 116 = .ok (.return_, 1) := by decide +kernel
theorem dX2_init_0 : decode cX2_init 0 = .ok (.aload_n 0, 1) := by decide +kernel
theorem dX2_init_1 : decode cX2_init 1 = .ok (.invokespecial 3, 3) := by decide +kernel
theorem dX2_init_4 : decode cX2_init 4 = .ok (.aload_n 0, 1) := by decide +kernel
theorem dX2_init_5 : decode cX2_init 5 = .ok (.bipush 40, 2) := by decide +kernel
theorem dX2_init_7 : decode cX2_init 7 = .ok (.newarray .int, 2) := by decide +kernel
theorem dX2_init_9 : decode cX2_init 9 = .ok (.putfield 9, 3) := by decide +kernel
theorem dX2_init_12 : decode cX2_init 12 = .ok (.return_, 1) := by decide +kernel
theorem dX2_isMissing_0 : decode cX2_isMissing 0 = .ok (.aload_n 0, 1) := by decide +kernel
theorem dX2_isMissing_1 : decode cX2_isMissing 1 = .ok (.getfield 15, 3) := by decide +kernel
theorem dX2_isMissing_4 : decode cX2_isMissing 4 = .ok (.ifCond .ne 7, 3) := by decide +kernel
theorem dX2_isMissing_7 : decode cX2_isMissing 7 = .ok (.iconst 1, 1) := by decide +kernel
theorem dX2_isMissing_8 : decode cX2_isMissing 8 = .ok (.goto 4, 3) := by decide +kernel
theorem dX2_isMissing_11 : decode cX2_isMissing 11 = .ok (.iconst 0, 1) := by decide +kernel
theorem dX2_isMissing_12 : decode cX2_isMissing 12 = .ok (.ireturn, 1) := by decide +kernel
theorem dX2_renew_0 : decode cX2_renew 0 = .ok (.aload_n 0, 1) := by decide +kernel
theorem dX2_renew_1 : decode cX2_renew 1 = .ok (.iload_n 1, 1) := by decide +kernel
theorem dX2_renew_2 : decode cX2_renew 2 = .ok (.putfield 15, 3) := by decide +kernel
theorem dX2_renew_5 : decode cX2_renew 5 = .ok (.aload_n 0, 1) := by decide +kernel
theorem dX2_renew_6 : decode cX2_renew 6 = .ok (.iload_n 1, 1) := by decide +kernel
theorem dX2_renew_7 : decode cX2_renew 7 = .ok (.ifCond .ne 7, 3) := by decide +kernel
theorem dX2_renew_10 : decode cX2_renew 10 = .ok (.iconst 0, 1) := by decide +kernel
theorem dX2_renew_11 : decode cX2_renew 11 = .ok (.goto 4, 3) := by decide +kernel
theorem dX2_renew_14 : decode cX2_renew 14 = .ok (.iload_n 2, 1) := by decide +kernel
theorem dX2_renew_15 : decode cX2_renew 15 = .ok (.putfield 19, 3) := by decide +kernel
theorem dX2_renew_18 : decode cX2_renew 18 = .ok (.aload_n 0, 1) := by decide +kernel
theorem dX2_renew_19 : decode cX2_renew 19 = .ok (.getfield 9, 3) := by decide +kernel
theorem dX2_renew_22 : decode cX2_renew 22 = .ok (.iconst 0, 1) := by decide +kernel
theorem dX2_renew_23 : decode cX2_renew 23 = .ok (.invokestatic 22, 3) := by decide +kernel
theorem dX2_renew_26 : decode cX2_renew 26 = .ok (.return_, 1) := by decide +kernel
theorem dX2_put_0 : decode cX2_put 0 = .ok (.aload_n 0, 1) := by decide +kernel
theorem dX2_put_1 : decode cX2_put 1 = .ok (.getfield 15, 3) := by decide +kernel
theorem dX2_put_4 : decode cX2_put 4 = .ok (.lookupswitch 50 #[(8, 28), (16, 39)], 28) := by decide +kernel
theorem dX2_put_32 : decode cX2_put 32 = .ok (.aload_n 0, 1) := by decide +kernel
theorem dX2_put_33 : decode cX2_put 33 = .ok (.getfield 9, 3) := by decide +kernel
theorem dX2_put_36 : decode cX2_put 36 = .ok (.iload_n 1, 1) := by decide +kernel
theorem dX2_put_37 : decode cX2_put 37 = .ok (.iload_n 2, 1) := by decide +kernel
theorem dX2_put_38 : decode cX2_put 38 = .ok (.i2b, 1) := by decide +kernel
theorem dX2_put_39 : decode cX2_put 39 = .ok (.iastore, 1) := by decide +kernel
theorem dX2_put_40 : decode cX2_put 40 = .ok (.goto 21, 3) := by decide +kernel
theorem dX2_put_43 : decode cX2_put 43 = .ok (.aload_n 0, 1) := by decide +kernel
theorem dX2_put_44 : decode cX2_put 44 = .ok (.getfield 9, 3) := by decide +kernel
theorem dX2_put_47 : decode cX2_put 47 = .ok (.iload_n 1, 1) := by decide +kernel
theorem dX2_put_48 : decode cX2_put 48 = .ok (.iload_n 2, 1) := by decide +kernel
theorem dX2_put_49 : decode cX2_put 49 = .ok (.i2s, 1) := by decide +kernel
theorem dX2_put_50 : decode cX2_put 50 = .ok (.iastore, 1) := by decide +kernel
theorem dX2_put_51 : decode cX2_put 51 = .ok (.goto 10, 3) := by decide +kernel
theorem dX2_put_54 : decode cX2_put 54 = .ok (.aload_n 0, 1) := by decide +kernel
theorem dX2_put_55 : decode cX2_put 55 = .ok (.getfield 9, 3) := by decide +kernel
theorem dX2_put_58 : decode cX2_put 58 = .ok (.iload_n 1, 1) := by decide +kernel
theorem dX2_put_59 : decode cX2_put 59 = .ok (.iload_n 2, 1) := by decide +kernel
theorem dX2_put_60 : decode cX2_put 60 = .ok (.iastore, 1) := by decide +kernel
theorem dX2_put_61 : decode cX2_put 61 = .ok (.return_, 1) := by decide +kernel
theorem dX2_hasRow_0 : decode cX2_hasRow 0 = .ok (.iload_n 1, 1) := by decide +kernel
theorem dX2_hasRow_1 : decode cX2_hasRow 1 = .ok (.ifCond .lt 29, 3) := by decide +kernel
theorem dX2_hasRow_4 : decode cX2_hasRow 4 = .ok (.iload_n 2, 1) := by decide +kernel
theorem dX2_hasRow_5 : decode cX2_hasRow 5 = .ok (.ifCond .lt 25, 3) := by decide +kernel
theorem dX2_hasRow_8 : decode cX2_hasRow 8 = .ok (.iload_n 2, 1) := by decide +kernel
theorem dX2_hasRow_9 : decode cX2_hasRow 9 = .ok (.aload_n 0, 1) := by decide +kernel
theorem dX2_hasRow_10 : decode cX2_hasRow 10 = .ok (.getfield 19, 3) := by decide +kernel
theorem dX2_hasRow_13 : decode cX2_hasRow 13 = .ok (.if_icmp .gt 17, 3) := by decide +kernel
theorem dX2_hasRow_16 : decode cX2_hasRow 16 = .ok (.iload_n 1, 1) := by decide +kernel
theorem dX2_hasRow_17 : decode cX2_hasRow 17 = .ok (.aload_n 0, 1) := by decide +kernel
theorem dX2_hasRow_18 : decode cX2_hasRow 18 = .ok (.getfield 19, 3) := by decide +kernel
theorem dX2_hasRow_21 : decode cX2_hasRow 21 = .ok (.iload_n 2, 1) := by decide +kernel
theorem dX2_hasRow_22 : decode cX2_hasRow 22 = .ok (.isub, 1) := by decide +kernel
theorem dX2_hasRow_23 : decode cX2_hasRow 23 = .ok (.if_icmp .gt 7, 3) := by decide +kernel
theorem dX2_hasRow_26 : decode cX2_hasRow 26 = .ok (.iconst 1, 1) := by decide +kernel
theorem dX2_hasRow_27 : decode cX2_hasRow 27 = .ok (.goto 4, 3) := by decide +kernel
theorem dX2_hasRow_30 : decode cX2_hasRow 30 = .ok (.iconst 0, 1) := by decide +kernel
theorem dX2_hasRow_31 : decode cX2_hasRow 31 = .ok (.ireturn, 1) := by decide +kernel
theorem dX3_init_0 : decode cX3_init 0 = .ok (.aload_n 0, 1) := by decide +kernel
theorem dX3_init_1 : decode cX3_init 1 = .ok (.invokespecial 3, 3) := by decide +kernel
theorem dX3_init_4 : decode cX3_init 4 = .ok (.aload_n 0, 1) := by decide +kernel
theorem dX3_init_5 : decode cX3_init 5 = .ok (.bipush 120, 2) := by decide +kernel
theorem dX3_init_7 : decode cX3_init 7 = .ok (.newarray .int, 2) := by decide +kernel
theorem dX3_init_9 : decode cX3_init 9 = .ok (.putfield 11, 3) := by decide +kernel
theorem dX3_init_12 : decode cX3_init 12 = .ok (.aload_n 0, 1) := by decide +kernel
theorem dX3_init_13 : decode cX3_init 13 = .ok (.bipush 120, 2) := by decide +kernel
theorem dX3_init_15 : decode cX3_init 15 = .ok (.newarray .int, 2) := by decide +kernel
theorem dX3_init_17 : decode cX3_init 17 = .ok (.putfield 15, 3) := by decide +kernel
theorem dX3_init_20 : decode cX3_init 20 = .ok (.aload_n 0, 1) := by decide +kernel
theorem dX3_init_21 : decode cX3_init 21 = .ok (.bipush 120, 2) := by decide +kernel
theorem dX3_init_23 : decode cX3_init 23 = .ok (.newarray .int, 2) := by decide +kernel
theorem dX3_init_25 : decode cX3_init 25 = .ok (.putfield 18, 3) := by decide +kernel
theorem dX3_init_28 : decode cX3_init 28 = .ok (.aload_n 0, 1) := by decide +kernel
theorem dX3_init_29 : decode cX3_init 29 = .ok (.bipush 120, 2) := by decide +kernel
theorem dX3_init_31 : decode cX3_init 31 = .ok (.newarray .int, 2) := by decide +kernel
theorem dX3_init_33 : decode cX3_init 33 = .ok (.putfield 21, 3) := by decide +kernel
theorem dX3_init_36 : decode cX3_init 36 = .ok (.return_, 1) := by decide +kernel
theorem dX3_append_0 : decode cX3_append 0 = .ok (.iload_n 2, 1) := by decide +kernel
theorem dX3_append_1 : decode cX3_append 1 = .ok (.iconst 1, 1) := by decide +kernel
theorem dX3_append_2 : decode cX3_append 2 = .ok (.isub, 1) := by decide +kernel
theorem dX3_append_3 : decode cX3_append 3 = .ok (.istore_n 3, 1) := by decide +kernel
theorem dX3_append_4 : decode cX3_append 4 = .ok (.iload_n 3, 1) := by decide +kernel
theorem dX3_append_5 : decode cX3_append 5 = .ok (.ifCond .lt 47, 3) := by decide +kernel
theorem dX3_append_8 : decode cX3_append 8 = .ok (.aload_n 0, 1) := by decide +kernel
theorem dX3_append_9 : decode cX3_append 9 = .ok (.getfield 24, 3) := by decide +kernel
theorem dX3_append_12 : decode cX3_append 12 = .ok (.bipush 120, 2) := by decide +kernel
theorem dX3_append_14 : decode cX3_append 14 = .ok (.if_icmp .ge 32, 3) := by decide +kernel
theorem dX3_append_17 : decode cX3_append 17 = .ok (.aload_n 0, 1) := by decide +kernel
theorem dX3_append_18 : decode cX3_append 18 = .ok (.getfield 11, 3) := by decide +kernel
theorem dX3_append_21 : decode cX3_append 21 = .ok (.aload_n 0, 1) := by decide +kernel
theorem dX3_append_22 : decode cX3_append 22 = .ok (.getfield 24, 3) := by decide +kernel
theorem dX3_append_25 : decode cX3_append 25 = .ok (.iload_n 1, 1) := by decide +kernel
theorem dX3_append_26 : decode cX3_append 26 = .ok (.bipush 8, 2) := by decide +kernel
theorem dX3_append_28 : decode cX3_append 28 = .ok (.iload_n 3, 1) := by decide +kernel
theorem dX3_append_29 : decode cX3_append 29 = .ok (.imul, 1) := by decide +kernel
theorem dX3_append_30 : decode cX3_append 30 = .ok (.iushr, 1) := by decide +kernel
theorem dX3_append_31 : decode cX3_append 31 = .ok (.sipush 255, 3) := by decide +kernel
theorem dX3_append_34 : decode cX3_append 34 = .ok (.iand, 1) := by decide +kernel
theorem dX3_append_35 : decode cX3_append 35 = .ok (.iastore, 1) := by decide +kernel
theorem dX3_append_36 : decode cX3_append 36 = .ok (.aload_n 0, 1) := by decide +kernel
theorem dX3_append_37 : decode cX3_append 37 = .ok (.dup, 1) := by decide +kernel
theorem dX3_append_38 : decode cX3_append 38 = .ok (.getfield 24, 3) := by decide +kernel
theorem dX3_append_41 : decode cX3_append 41 = .ok (.iconst 1, 1) := by decide +kernel
theorem dX3_append_42 : decode cX3_append 42 = .ok (.iadd, 1) := by decide +kernel
theorem dX3_append_43 : decode cX3_append 43 = .ok (.putfield 24, 3) := by decide +kernel
theorem dX3_append_46 : decode cX3_append 46 = .ok (.iinc 3 (-1), 3) := by decide +kernel
theorem dX3_append_49 : decode cX3_append 49 = .ok (.goto (-45), 3) := by decide +kernel
theorem dX3_append_52 : decode cX3_append 52 = .ok (.return_, 1) := by decide +kernel
theorem dX3_split_0 : decode cX3_split 0 = .ok (.aload_n 0, 1) := by decide +kernel
theorem dX3_split_1 : decode cX3_split 1 = .ok (.iconst 0, 1) := by decide +kernel
theorem dX3_split_2 : decode cX3_split 2 = .ok (.putfield 28, 3) := by decide +kernel
theorem dX3_split_5 : decode cX3_split 5 = .ok (.iconst 0, 1) := by decide +kernel
theorem dX3_split_6 : decode cX3_split 6 = .ok (.istore_n 1, 1) := by decide +kernel
theorem dX3_split_7 : decode cX3_split 7 = .ok (.iconst 0, 1) := by decide +kernel
theorem dX3_split_8 : decode cX3_split 8 = .ok (.istore_n 2, 1) := by decide +kernel
theorem dX3_split_9 : decode cX3_split 9 = .ok (.iload_n 2, 1) := by decide +kernel
theorem dX3_split_10 : decode cX3_split 10 = .ok (.bipush 120, 2) := by decide +kernel
theorem dX3_split_12 : decode cX3_split 12 = .ok (.if_icmp .ge 57, 3) := by decide +kernel
theorem dX3_split_15 : decode cX3_split 15 = .ok (.iload_n 1, 1) := by decide +kernel
theorem dX3_split_16 : decode cX3_split 16 = .ok (.aload_n 0, 1) := by decide +kernel
theorem dX3_split_17 : decode cX3_split 17 = .ok (.getfield 24, 3) := by decide +kernel
theorem dX3_split_20 : decode cX3_split 20 = .ok (.if_icmp .ge 49, 3) := by decide +kernel
theorem dX3_split_23 : decode cX3_split 23 = .ok (.aload_n 0, 1) := by decide +kernel
theorem dX3_split_24 : decode cX3_split 24 = .ok (.iload_n 1, 1) := by decide +kernel
theorem dX3_split_25 : decode cX3_split 25 = .ok (.invokevirtual 31, 3) := by decide +kernel
theorem dX3_split_28 : decode cX3_split 28 = .ok (.istore_n 3, 1) := by decide +kernel
theorem dX3_split_29 : decode cX3_split 29 = .ok (.aload_n 0, 1) := by decide +kernel
theorem dX3_split_30 : decode cX3_split 30 = .ok (.getfield 11, 3) := by decide +kernel
theorem dX3_split_33 : decode cX3_split 33 = .ok (.iload_n 1, 1) := by decide +kernel
theorem dX3_split_34 : decode cX3_split 34 = .ok (.iaload, 1) := by decide +kernel
theorem dX3_split_35 : decode cX3_split 35 = .ok (.invokestatic 35, 3) := by decide +kernel
theorem dX3_split_38 : decode cX3_split 38 = .ok (.istore 4, 2) := by decide +kernel
theorem dX3_split_40 : decode cX3_split 40 = .ok (.iload 4, 2) := by decide +kernel
theorem dX3_split_42 : decode cX3_split 42 = .ok (.iconst 4, 1) := by decide +kernel
theorem dX3_split_43 : decode cX3_split 43 = .ok (.if_icmp .eq 18, 3) := by decide +kernel
theorem dX3_split_46 : decode cX3_split 46 = .ok (.aload_n 0, 1) := by decide +kernel
theorem dX3_split_47 : decode cX3_split 47 = .ok (.iload 4, 2) := by decide +kernel
theorem dX3_split_49 : decode cX3_split 49 = .ok (.aload_n 0, 1) := by decide +kernel
theorem dX3_split_50 : decode cX3_split 50 = .ok (.iload 4, 2) := by decide +kernel
theorem dX3_split_52 : decode cX3_split 52 = .ok (.iload_n 1, 1) := by decide +kernel
theorem dX3_split_53 : decode cX3_split 53 = .ok (.iload_n 3, 1) := by decide +kernel
theorem dX3_split_54 : decode cX3_split 54 = .ok (.invokevirtual 38, 3) := by decide +kernel
theorem dX3_split_57 : decode cX3_split 57 = .ok (.iload_n 1, 1) := by decide +kernel
theorem dX3_split_58 : decode cX3_split 58 = .ok (.invokevirtual 42, 3) := by decide +kernel
theorem dX3_split_61 : decode cX3_split 61 = .ok (.iload_n 3, 1) := by decide +kernel
theorem dX3_split_62 : decode cX3_split 62 = .ok (.istore_n 1, 1) := by decide +kernel
theorem dX3_split_63 : decode cX3_split 63 = .ok (.iinc 2 1, 3) := by decide +kernel
theorem dX3_split_66 : decode cX3_split 66 = .ok (.goto (-57), 3) := by decide +kernel
theorem dX3_split_69 : decode cX3_split 69 = .ok (.return_, 1) := by decide +kernel
theorem dX3_kindAt_0 : decode cX3_kindAt 0 = .ok (.iload_n 1, 1) := by decide +kernel
theorem dX3_kindAt_1 : decode cX3_kindAt 1 = .ok (.ifCond .lt 20, 3) := by decide +kernel
theorem dX3_kindAt_4 : decode cX3_kindAt 4 = .ok (.iload_n 1, 1) := by decide +kernel
theorem dX3_kindAt_5 : decode cX3_kindAt 5 = .ok (.aload_n 0, 1) := by decide +kernel
theorem dX3_kindAt_6 : decode cX3_kindAt 6 = .ok (.getfield 28, 3) := by decide +kernel
theorem dX3_kindAt_9 : decode cX3_kindAt 9 = .ok (.if_icmp .ge 12, 3) := by decide +kernel
theorem dX3_kindAt_12 : decode cX3_kindAt 12 = .ok (.aload_n 0, 1) := by decide +kernel
theorem dX3_kindAt_13 : decode cX3_kindAt 13 = .ok (.getfield 15, 3) := by decide +kernel
theorem dX3_kindAt_16 : decode cX3_kindAt 16 = .ok (.iload_n 1, 1) := by decide +kernel
theorem dX3_kindAt_17 : decode cX3_kindAt 17 = .ok (.iaload, 1) := by decide +kernel
theorem dX3_kindAt_18 : decode cX3_kindAt 18 = .ok (.goto 4, 3) := by decide +kernel
theorem dX3_kindAt_21 : decode cX3_kindAt 21 = .ok (.iconst 0, 1) := by decide +kernel
theorem dX3_kindAt_22 : decode cX3_kindAt 22 = .ok (.ireturn, 1) := by decide +kernel
theorem dX3_beginAt_0 : decode cX3_beginAt 0 = .ok (.iload_n 1, 1) := by decide +kernel
theorem dX3_beginAt_1 : decode cX3_beginAt 1 = .ok (.ifCond .lt 20, 3) := by decide +kernel
theorem dX3_beginAt_4 : decode cX3_beginAt 4 = .ok (.iload_n 1, 1) := by decide +kernel
theorem dX3_beginAt_5 : decode cX3_beginAt 5 = .ok (.aload_n 0, 1) := by decide +kernel
theorem dX3_beginAt_6 : decode cX3_beginAt 6 = .ok (.getfield 28, 3) := by decide +kernel
theorem dX3_beginAt_9 : decode cX3_beginAt 9 = .ok (.if_icmp .ge 12, 3) := by decide +kernel
theorem dX3_beginAt_12 : decode cX3_beginAt 12 = .ok (.aload_n 0, 1) := by decide +kernel
theorem dX3_beginAt_13 : decode cX3_beginAt 13 = .ok (.getfield 21, 3) := by decide +kernel
theorem dX3_beginAt_16 : decode cX3_beginAt 16 = .ok (.iload_n 1, 1) := by decide +kernel
theorem dX3_beginAt_17 : decode cX3_beginAt 17 = .ok (.iaload, 1) := by decide +kernel
theorem dX3_beginAt_18 : decode cX3_beginAt 18 = .ok (.goto 7, 3) := by decide +kernel
theorem dX3_beginAt_21 : decode cX3_beginAt 21 = .ok (.aload_n 0, 1) := by decide +kernel
theorem dX3_beginAt_22 : decode cX3_beginAt 22 = .ok (.getfield 24, 3) := by decide +kernel
theorem dX3_beginAt_25 : decode cX3_beginAt 25 = .ok (.ireturn, 1) := by decide +kernel
theorem dX3_wordAt_0 : decode cX3_wordAt 0 = .ok (.iload_n 1, 1) := by decide +kernel
theorem dX3_wordAt_1 : decode cX3_wordAt 1 = .ok (.ifCond .lt 25, 3) := by decide +kernel
theorem dX3_wordAt_4 : decode cX3_wordAt 4 = .ok (.iload_n 1, 1) := by decide +kernel
theorem dX3_wordAt_5 : decode cX3_wordAt 5 = .ok (.aload_n 0, 1) := by decide +kernel
theorem dX3_wordAt_6 : decode cX3_wordAt 6 = .ok (.getfield 28, 3) := by decide +kernel
theorem dX3_wordAt_9 : decode cX3_wordAt 9 = .ok (.if_icmp .ge 17, 3) := by decide +kernel
theorem dX3_wordAt_12 : decode cX3_wordAt 12 = .ok (.aload_n 0, 1) := by decide +kernel
theorem dX3_wordAt_13 : decode cX3_wordAt 13 = .ok (.getfield 15, 3) := by decide +kernel
theorem dX3_wordAt_16 : decode cX3_wordAt 16 = .ok (.iload_n 1, 1) := by decide +kernel
theorem dX3_wordAt_17 : decode cX3_wordAt 17 = .ok (.iaload, 1) := by decide +kernel
theorem dX3_wordAt_18 : decode cX3_wordAt 18 = .ok (.iconst 1, 1) := by decide +kernel
theorem dX3_wordAt_19 : decode cX3_wordAt 19 = .ok (.if_icmp .ne 7, 3) := by decide +kernel
theorem dX3_wordAt_22 : decode cX3_wordAt 22 = .ok (.iconst 1, 1) := by decide +kernel
theorem dX3_wordAt_23 : decode cX3_wordAt 23 = .ok (.goto 4, 3) := by decide +kernel
theorem dX3_wordAt_26 : decode cX3_wordAt 26 = .ok (.iconst 0, 1) := by decide +kernel
theorem dX3_wordAt_27 : decode cX3_wordAt 27 = .ok (.istore_n 2, 1) := by decide +kernel
theorem dX3_wordAt_28 : decode cX3_wordAt 28 = .ok (.iload_n 2, 1) := by decide +kernel
theorem dX3_wordAt_29 : decode cX3_wordAt 29 = .ok (.ifCond .eq 12, 3) := by decide +kernel
theorem dX3_wordAt_32 : decode cX3_wordAt 32 = .ok (.aload_n 0, 1) := by decide +kernel
theorem dX3_wordAt_33 : decode cX3_wordAt 33 = .ok (.getfield 18, 3) := by decide +kernel
theorem dX3_wordAt_36 : decode cX3_wordAt 36 = .ok (.iload_n 1, 1) := by decide +kernel
theorem dX3_wordAt_37 : decode cX3_wordAt 37 = .ok (.iaload, 1) := by decide +kernel
theorem dX3_wordAt_38 : decode cX3_wordAt 38 = .ok (.goto 4, 3) := by decide +kernel
theorem dX3_wordAt_41 : decode cX3_wordAt 41 = .ok (.iconst (-1), 1) := by decide +kernel
theorem dX3_wordAt_42 : decode cX3_wordAt 42 = .ok (.ireturn, 1) := by decide +kernel
theorem dX3_numberAt_0 : decode cX3_numberAt 0 = .ok (.iload_n 1, 1) := by decide +kernel
theorem dX3_numberAt_1 : decode cX3_numberAt 1 = .ok (.ifCond .lt 25, 3) := by decide +kernel
theorem dX3_numberAt_4 : decode cX3_numberAt 4 = .ok (.iload_n 1, 1) := by decide +kernel
theorem dX3_numberAt_5 : decode cX3_numberAt 5 = .ok (.aload_n 0, 1) := by decide +kernel
theorem dX3_numberAt_6 : decode cX3_numberAt 6 = .ok (.getfield 28, 3) := by decide +kernel
theorem dX3_numberAt_9 : decode cX3_numberAt 9 = .ok (.if_icmp .ge 17, 3) := by decide +kernel
theorem dX3_numberAt_12 : decode cX3_numberAt 12 = .ok (.aload_n 0, 1) := by decide +kernel
theorem dX3_numberAt_13 : decode cX3_numberAt 13 = .ok (.getfield 15, 3) := by decide +kernel
theorem dX3_numberAt_16 : decode cX3_numberAt 16 = .ok (.iload_n 1, 1) := by decide +kernel
theorem dX3_numberAt_17 : decode cX3_numberAt 17 = .ok (.iaload, 1) := by decide +kernel
theorem dX3_numberAt_18 : decode cX3_numberAt 18 = .ok (.iconst 2, 1) := by decide +kernel
theorem dX3_numberAt_19 : decode cX3_numberAt 19 = .ok (.if_icmp .ne 7, 3) := by decide +kernel
theorem dX3_numberAt_22 : decode cX3_numberAt 22 = .ok (.iconst 1, 1) := by decide +kernel
theorem dX3_numberAt_23 : decode cX3_numberAt 23 = .ok (.goto 4, 3) := by decide +kernel
theorem dX3_numberAt_26 : decode cX3_numberAt 26 = .ok (.iconst 0, 1) := by decide +kernel
theorem dX3_numberAt_27 : decode cX3_numberAt 27 = .ok (.istore_n 2, 1) := by decide +kernel
theorem dX3_numberAt_28 : decode cX3_numberAt 28 = .ok (.iload_n 2, 1) := by decide +kernel
theorem dX3_numberAt_29 : decode cX3_numberAt 29 = .ok (.ifCond .eq 12, 3) := by decide +kernel
theorem dX3_numberAt_32 : decode cX3_numberAt 32 = .ok (.aload_n 0, 1) := by decide +kernel
theorem dX3_numberAt_33 : decode cX3_numberAt 33 = .ok (.getfield 18, 3) := by decide +kernel
theorem dX3_numberAt_36 : decode cX3_numberAt 36 = .ok (.iload_n 1, 1) := by decide +kernel
theorem dX3_numberAt_37 : decode cX3_numberAt 37 = .ok (.iaload, 1) := by decide +kernel
theorem dX3_numberAt_38 : decode cX3_numberAt 38 = .ok (.goto 4, 3) := by decide +kernel
theorem dX3_numberAt_41 : decode cX3_numberAt 41 = .ok (.iconst (-1), 1) := by decide +kernel
theorem dX3_numberAt_42 : decode cX3_numberAt 42 = .ok (.ireturn, 1) := by decide +kernel
theorem dX3_addToken_0 : decode cX3_addToken 0 = .ok (.aload_n 0, 1) := by decide +kernel
theorem dX3_addToken_1 : decode cX3_addToken 1 = .ok (.getfield 28, 3) := by decide +kernel
theorem dX3_addToken_4 : decode cX3_addToken 4 = .ok (.bipush 120, 2) := by decide +kernel
theorem dX3_addToken_6 : decode cX3_addToken 6 = .ok (.if_icmp .lt 4, 3) := by decide +kernel
theorem dX3_addToken_9 : decode cX3_addToken 9 = .ok (.return_, 1) := by decide +kernel
theorem dX3_addToken_10 : decode cX3_addToken 10 = .ok (.aload_n 0, 1) := by decide +kernel
theorem dX3_addToken_11 : decode cX3_addToken 11 = .ok (.getfield 15, 3) := by decide +kernel
theorem dX3_addToken_14 : decode cX3_addToken 14 = .ok (.aload_n 0, 1) := by decide +kernel
theorem dX3_addToken_15 : decode cX3_addToken 15 = .ok (.getfield 28, 3) := by decide +kernel
theorem dX3_addToken_18 : decode cX3_addToken 18 = .ok (.iload_n 1, 1) := by decide +kernel
theorem dX3_addToken_19 : decode cX3_addToken 19 = .ok (.iastore, 1) := by decide +kernel
theorem dX3_addToken_20 : decode cX3_addToken 20 = .ok (.aload_n 0, 1) := by decide +kernel
theorem dX3_addToken_21 : decode cX3_addToken 21 = .ok (.getfield 18, 3) := by decide +kernel
theorem dX3_addToken_24 : decode cX3_addToken 24 = .ok (.aload_n 0, 1) := by decide +kernel
theorem dX3_addToken_25 : decode cX3_addToken 25 = .ok (.getfield 28, 3) := by decide +kernel
theorem dX3_addToken_28 : decode cX3_addToken 28 = .ok (.iload_n 2, 1) := by decide +kernel
theorem dX3_addToken_29 : decode cX3_addToken 29 = .ok (.iastore, 1) := by decide +kernel
theorem dX3_addToken_30 : decode cX3_addToken 30 = .ok (.aload_n 0, 1) := by decide +kernel
theorem dX3_addToken_31 : decode cX3_addToken 31 = .ok (.getfield 21, 3) := by decide +kernel
theorem dX3_addToken_34 : decode cX3_addToken 34 = .ok (.aload_n 0, 1) := by decide +kernel
theorem dX3_addToken_35 : decode cX3_addToken 35 = .ok (.getfield 28, 3) := by decide +kernel
theorem dX3_addToken_38 : decode cX3_addToken 38 = .ok (.iload_n 3, 1) := by decide +kernel
theorem dX3_addToken_39 : decode cX3_addToken 39 = .ok (.iastore, 1) := by decide +kernel
theorem dX3_addToken_40 : decode cX3_addToken 40 = .ok (.aload_n 0, 1) := by decide +kernel
theorem dX3_addToken_41 : decode cX3_addToken 41 = .ok (.dup, 1) := by decide +kernel
theorem dX3_addToken_42 : decode cX3_addToken 42 = .ok (.getfield 28, 3) := by decide +kernel
theorem dX3_addToken_45 : decode cX3_addToken 45 = .ok (.iconst 1, 1) := by decide +kernel
theorem dX3_addToken_46 : decode cX3_addToken 46 = .ok (.iadd, 1) := by decide +kernel
theorem dX3_addToken_47 : decode cX3_addToken 47 = .ok (.putfield 28, 3) := by decide +kernel
theorem dX3_addToken_50 : decode cX3_addToken 50 = .ok (.return_, 1) := by decide +kernel
theorem dX3_endOf_0 : decode cX3_endOf 0 = .ok (.aload_n 0, 1) := by decide +kernel
theorem dX3_endOf_1 : decode cX3_endOf 1 = .ok (.getfield 11, 3) := by decide +kernel
theorem dX3_endOf_4 : decode cX3_endOf 4 = .ok (.iload_n 1, 1) := by decide +kernel
theorem dX3_endOf_5 : decode cX3_endOf 5 = .ok (.iaload, 1) := by decide +kernel
theorem dX3_endOf_6 : decode cX3_endOf 6 = .ok (.invokestatic 35, 3) := by decide +kernel
theorem dX3_endOf_9 : decode cX3_endOf 9 = .ok (.istore_n 2, 1) := by decide +kernel
theorem dX3_endOf_10 : decode cX3_endOf 10 = .ok (.iload_n 1, 1) := by decide +kernel
theorem dX3_endOf_11 : decode cX3_endOf 11 = .ok (.iconst 1, 1) := by decide +kernel
theorem dX3_endOf_12 : decode cX3_endOf 12 = .ok (.iadd, 1) := by decide +kernel
theorem dX3_endOf_13 : decode cX3_endOf 13 = .ok (.istore_n 3, 1) := by decide +kernel
theorem dX3_endOf_14 : decode cX3_endOf 14 = .ok (.iload_n 2, 1) := by decide +kernel
theorem dX3_endOf_15 : decode cX3_endOf 15 = .ok (.iconst 1, 1) := by decide +kernel
theorem dX3_endOf_16 : decode cX3_endOf 16 = .ok (.if_icmp .eq 8, 3) := by decide +kernel
theorem dX3_endOf_19 : decode cX3_endOf 19 = .ok (.iload_n 2, 1) := by decide +kernel
theorem dX3_endOf_20 : decode cX3_endOf 20 = .ok (.iconst 2, 1) := by decide +kernel
theorem dX3_endOf_21 : decode cX3_endOf 21 = .ok (.if_icmp .ne 30, 3) := by decide +kernel
theorem dX3_endOf_24 : decode cX3_endOf 24 = .ok (.iload_n 3, 1) := by decide +kernel
theorem dX3_endOf_25 : decode cX3_endOf 25 = .ok (.aload_n 0, 1) := by decide +kernel
theorem dX3_endOf_26 : decode cX3_endOf 26 = .ok (.getfield 24, 3) := by decide +kernel
theorem dX3_endOf_29 : decode cX3_endOf 29 = .ok (.if_icmp .ge 22, 3) := by decide +kernel
theorem dX3_endOf_32 : decode cX3_endOf 32 = .ok (.aload_n 0, 1) := by decide +kernel
theorem dX3_endOf_33 : decode cX3_endOf 33 = .ok (.getfield 11, 3) := by decide +kernel
theorem dX3_endOf_36 : decode cX3_endOf 36 = .ok (.iload_n 3, 1) := by decide +kernel
theorem dX3_endOf_37 : decode cX3_endOf 37 = .ok (.iaload, 1) := by decide +kernel
theorem dX3_endOf_38 : decode cX3_endOf 38 = .ok (.invokestatic 35, 3) := by decide +kernel
theorem dX3_endOf_41 : decode cX3_endOf 41 = .ok (.iload_n 2, 1) := by decide +kernel
theorem dX3_endOf_42 : decode cX3_endOf 42 = .ok (.if_icmp .ne 9, 3) := by decide +kernel
theorem dX3_endOf_45 : decode cX3_endOf 45 = .ok (.iinc 3 1, 3) := by decide +kernel
theorem dX3_endOf_48 : decode cX3_endOf 48 = .ok (.goto (-24), 3) := by decide +kernel
theorem dX3_endOf_51 : decode cX3_endOf 51 = .ok (.iload_n 3, 1) := by decide +kernel
theorem dX3_endOf_52 : decode cX3_endOf 52 = .ok (.ireturn, 1) := by decide +kernel
theorem dX3_kindOf_0 : decode cX3_kindOf 0 = .ok (.iload_n 0, 1) := by decide +kernel
theorem dX3_kindOf_1 : decode cX3_kindOf 1 = .ok (.bipush 97, 2) := by decide +kernel
theorem dX3_kindOf_3 : decode cX3_kindOf 3 = .ok (.if_icmp .lt 11, 3) := by decide +kernel
theorem dX3_kindOf_6 : decode cX3_kindOf 6 = .ok (.iload_n 0, 1) := by decide +kernel
theorem dX3_kindOf_7 : decode cX3_kindOf 7 = .ok (.bipush 122, 2) := by decide +kernel
theorem dX3_kindOf_9 : decode cX3_kindOf 9 = .ok (.if_icmp .gt 5, 3) := by decide +kernel
theorem dX3_kindOf_12 : decode cX3_kindOf 12 = .ok (.iconst 1, 1) := by decide +kernel
theorem dX3_kindOf_13 : decode cX3_kindOf 13 = .ok (.ireturn, 1) := by decide +kernel
theorem dX3_kindOf_14 : decode cX3_kindOf 14 = .ok (.iload_n 0, 1) := by decide +kernel
theorem dX3_kindOf_15 : decode cX3_kindOf 15 = .ok (.bipush 48, 2) := by decide +kernel
theorem dX3_kindOf_17 : decode cX3_kindOf 17 = .ok (.if_icmp .lt 11, 3) := by decide +kernel
theorem dX3_kindOf_20 : decode cX3_kindOf 20 = .ok (.iload_n 0, 1) := by decide +kernel
theorem dX3_kindOf_21 : decode cX3_kindOf 21 = .ok (.bipush 57, 2) := by decide +kernel
theorem dX3_kindOf_23 : decode cX3_kindOf 23 = .ok (.if_icmp .gt 5, 3) := by decide +kernel
theorem dX3_kindOf_26 : decode cX3_kindOf 26 = .ok (.iconst 2, 1) := by decide +kernel
theorem dX3_kindOf_27 : decode cX3_kindOf 27 = .ok (.ireturn, 1) := by decide +kernel
theorem dX3_kindOf_28 : decode cX3_kindOf 28 = .ok (.iload_n 0, 1) := by decide +kernel
theorem dX3_kindOf_29 : decode cX3_kindOf 29 = .ok (.bipush 59, 2) := by decide +kernel
theorem dX3_kindOf_31 : decode cX3_kindOf 31 = .ok (.if_icmp .ne 5, 3) := by decide +kernel
theorem dX3_kindOf_34 : decode cX3_kindOf 34 = .ok (.iconst 3, 1) := by decide +kernel
theorem dX3_kindOf_35 : decode cX3_kindOf 35 = .ok (.ireturn, 1) := by decide +kernel
theorem dX3_kindOf_36 : decode cX3_kindOf 36 = .ok (.iload_n 0, 1) := by decide +kernel
theorem dX3_kindOf_37 : decode cX3_kindOf 37 = .ok (.bipush 32, 2) := by decide +kernel
theorem dX3_kindOf_39 : decode cX3_kindOf 39 = .ok (.if_icmp .ne 7, 3) := by decide +kernel
theorem dX3_kindOf_42 : decode cX3_kindOf 42 = .ok (.iconst 4, 1) := by decide +kernel
theorem dX3_kindOf_43 : decode cX3_kindOf 43 = .ok (.goto 4, 3) := by decide +kernel
theorem dX3_kindOf_46 : decode cX3_kindOf 46 = .ok (.iconst 5, 1) := by decide +kernel
theorem dX3_kindOf_47 : decode cX3_kindOf 47 = .ok (.ireturn, 1) := by decide +kernel
theorem dX3_valueOf_0 : decode cX3_valueOf 0 = .ok (.iload_n 1, 1) := by decide +kernel
theorem dX3_valueOf_1 : decode cX3_valueOf 1 = .ok (.lookupswitch 41 #[(1, 27), (2, 34)], 27) := by decide +kernel
theorem dX3_valueOf_28 : decode cX3_valueOf 28 = .ok (.aload_n 0, 1) := by decide +kernel
theorem dX3_valueOf_29 : decode cX3_valueOf 29 = .ok (.iload_n 2, 1) := by decide +kernel
theorem dX3_valueOf_30 : decode cX3_valueOf 30 = .ok (.iload_n 3, 1) := by decide +kernel
theorem dX3_valueOf_31 : decode cX3_valueOf 31 = .ok (.invokevirtual 46, 3) := by decide +kernel
theorem dX3_valueOf_34 : decode cX3_valueOf 34 = .ok (.ireturn, 1) := by decide +kernel
theorem dX3_valueOf_35 : decode cX3_valueOf 35 = .ok (.aload_n 0, 1) := by decide +kernel
theorem dX3_valueOf_36 : decode cX3_valueOf 36 = .ok (.iload_n 2, 1) := by decide +kernel
theorem dX3_valueOf_37 : decode cX3_valueOf 37 = .ok (.iload_n 3, 1) := by decide +kernel
theorem dX3_valueOf_38 : decode cX3_valueOf 38 = .ok (.invokevirtual 50, 3) := by decide +kernel
theorem dX3_valueOf_41 : decode cX3_valueOf 41 = .ok (.ireturn, 1) := by decide +kernel
theorem dX3_valueOf_42 : decode cX3_valueOf 42 = .ok (.iconst 0, 1) := by decide +kernel
theorem dX3_valueOf_43 : decode cX3_valueOf 43 = .ok (.ireturn, 1) := by decide +kernel
theorem dX3_wordIn_0 : decode cX3_wordIn 0 = .ok (.iconst 0, 1) := by decide +kernel
theorem dX3_wordIn_1 : decode cX3_wordIn 1 = .ok (.istore_n 3, 1) := by decide +kernel
theorem dX3_wordIn_2 : decode cX3_wordIn 2 = .ok (.iload_n 3, 1) := by decide +kernel
theorem dX3_wordIn_3 : decode cX3_wordIn 3 = .ok (.bipush 17, 2) := by decide +kernel
theorem dX3_wordIn_5 : decode cX3_wordIn 5 = .ok (.if_icmp .ge 24, 3) := by decide +kernel
theorem dX3_wordIn_8 : decode cX3_wordIn 8 = .ok (.aload_n 0, 1) := by decide +kernel
theorem dX3_wordIn_9 : decode cX3_wordIn 9 = .ok (.iload_n 3, 1) := by decide +kernel
theorem dX3_wordIn_10 : decode cX3_wordIn 10 = .ok (.invokestatic 55, 3) := by decide +kernel
theorem dX3_wordIn_13 : decode cX3_wordIn 13 = .ok (.iload_n 1, 1) := by decide +kernel
theorem dX3_wordIn_14 : decode cX3_wordIn 14 = .ok (.iload_n 2, 1) := by decide +kernel
theorem dX3_wordIn_15 : decode cX3_wordIn 15 = .ok (.invokevirtual 59, 3) := by decide +kernel
theorem dX3_wordIn_18 : decode cX3_wordIn 18 = .ok (.ifCond .eq 5, 3) := by decide +kernel
theorem dX3_wordIn_21 : decode cX3_wordIn 21 = .ok (.iload_n 3, 1) := by decide +kernel
theorem dX3_wordIn_22 : decode cX3_wordIn 22 = .ok (.ireturn, 1) := by decide +kernel
theorem dX3_wordIn_23 : decode cX3_wordIn 23 = .ok (.iinc 3 1, 3) := by decide +kernel
theorem dX3_wordIn_26 : decode cX3_wordIn 26 = .ok (.goto (-24), 3) := by decide +kernel
theorem dX3_wordIn_29 : decode cX3_wordIn 29 = .ok (.iconst (-1), 1) := by decide +kernel
theorem dX3_wordIn_30 : decode cX3_wordIn 30 = .ok (.ireturn, 1) := by decide +kernel
theorem dX3_isWordIn_0 : decode cX3_isWordIn 0 = .ok (.aload_n 1, 1) := by decide +kernel
theorem dX3_isWordIn_1 : decode cX3_isWordIn 1 = .ok (.invokevirtual 63, 3) := by decide +kernel
theorem dX3_isWordIn_4 : decode cX3_isWordIn 4 = .ok (.iload_n 3, 1) := by decide +kernel
theorem dX3_isWordIn_5 : decode cX3_isWordIn 5 = .ok (.iload_n 2, 1) := by decide +kernel
theorem dX3_isWordIn_6 : decode cX3_isWordIn 6 = .ok (.isub, 1) := by decide +kernel
theorem dX3_isWordIn_7 : decode cX3_isWordIn 7 = .ok (.if_icmp .eq 5, 3) := by decide +kernel
theorem dX3_isWordIn_10 : decode cX3_isWordIn 10 = .ok (.iconst 0, 1) := by decide +kernel
theorem dX3_isWordIn_11 : decode cX3_isWordIn 11 = .ok (.ireturn, 1) := by decide +kernel
theorem dX3_isWordIn_12 : decode cX3_isWordIn 12 = .ok (.iconst 0, 1) := by decide +kernel
theorem dX3_isWordIn_13 : decode cX3_isWordIn 13 = .ok (.istore 4, 2) := by decide +kernel
theorem dX3_isWordIn_15 : decode cX3_isWordIn 15 = .ok (.iload 4, 2) := by decide +kernel
theorem dX3_isWordIn_17 : decode cX3_isWordIn 17 = .ok (.iload_n 3, 1) := by decide +kernel
theorem dX3_isWordIn_18 : decode cX3_isWordIn 18 = .ok (.iload_n 2, 1) := by decide +kernel
theorem dX3_isWordIn_19 : decode cX3_isWordIn 19 = .ok (.isub, 1) := by decide +kernel
theorem dX3_isWordIn_20 : decode cX3_isWordIn 20 = .ok (.if_icmp .ge 29, 3) := by decide +kernel
theorem dX3_isWordIn_23 : decode cX3_isWordIn 23 = .ok (.aload_n 0, 1) := by decide +kernel
theorem dX3_isWordIn_24 : decode cX3_isWordIn 24 = .ok (.getfield 11, 3) := by decide +kernel
theorem dX3_isWordIn_27 : decode cX3_isWordIn 27 = .ok (.iload_n 2, 1) := by decide +kernel
theorem dX3_isWordIn_28 : decode cX3_isWordIn 28 = .ok (.iload 4, 2) := by decide +kernel
theorem dX3_isWordIn_30 : decode cX3_isWordIn 30 = .ok (.iadd, 1) := by decide +kernel
theorem dX3_isWordIn_31 : decode cX3_isWordIn 31 = .ok (.iaload, 1) := by decide +kernel
theorem dX3_isWordIn_32 : decode cX3_isWordIn 32 = .ok (.aload_n 1, 1) := by decide +kernel
theorem dX3_isWordIn_33 : decode cX3_isWordIn 33 = .ok (.iload 4, 2) := by decide +kernel
theorem dX3_isWordIn_35 : decode cX3_isWordIn 35 = .ok (.invokevirtual 68, 3) := by decide +kernel
theorem dX3_isWordIn_38 : decode cX3_isWordIn 38 = .ok (.if_icmp .eq 5, 3) := by decide +kernel
theorem dX3_isWordIn_41 : decode cX3_isWordIn 41 = .ok (.iconst 0, 1) := by decide +kernel
theorem dX3_isWordIn_42 : decode cX3_isWordIn 42 = .ok (.ireturn, 1) := by decide +kernel
theorem dX3_isWordIn_43 : decode cX3_isWordIn 43 = .ok (.iinc 4 1, 3) := by decide +kernel
theorem dX3_isWordIn_46 : decode cX3_isWordIn 46 = .ok (.goto (-31), 3) := by decide +kernel
theorem dX3_isWordIn_49 : decode cX3_isWordIn 49 = .ok (.iconst 1, 1) := by decide +kernel
theorem dX3_isWordIn_50 : decode cX3_isWordIn 50 = .ok (.ireturn, 1) := by decide +kernel
theorem dX3_numberIn_0 : decode cX3_numberIn 0 = .ok (.iconst 0, 1) := by decide +kernel
theorem dX3_numberIn_1 : decode cX3_numberIn 1 = .ok (.istore_n 3, 1) := by decide +kernel
theorem dX3_numberIn_2 : decode cX3_numberIn 2 = .ok (.iload_n 1, 1) := by decide +kernel
theorem dX3_numberIn_3 : decode cX3_numberIn 3 = .ok (.istore 4, 2) := by decide +kernel
theorem dX3_numberIn_5 : decode cX3_numberIn 5 = .ok (.iload 4, 2) := by decide +kernel
theorem dX3_numberIn_7 : decode cX3_numberIn 7 = .ok (.iload_n 2, 1) := by decide +kernel
theorem dX3_numberIn_8 : decode cX3_numberIn 8 = .ok (.if_icmp .ge 31, 3) := by decide +kernel
theorem dX3_numberIn_11 : decode cX3_numberIn 11 = .ok (.iload_n 3, 1) := by decide +kernel
theorem dX3_numberIn_12 : decode cX3_numberIn 12 = .ok (.bipush 10, 2) := by decide +kernel
theorem dX3_numberIn_14 : decode cX3_numberIn 14 = .ok (.imul, 1) := by decide +kernel
theorem dX3_numberIn_15 : decode cX3_numberIn 15 = .ok (.aload_n 0, 1) := by decide +kernel
theorem dX3_numberIn_16 : decode cX3_numberIn 16 = .ok (.getfield 11, 3) := by decide +kernel
theorem dX3_numberIn_19 : decode cX3_numberIn 19 = .ok (.iload 4, 2) := by decide +kernel
theorem dX3_numberIn_21 : decode cX3_numberIn 21 = .ok (.iaload, 1) := by decide +kernel
theorem dX3_numberIn_22 : decode cX3_numberIn 22 = .ok (.iadd, 1) := by decide +kernel
theorem dX3_numberIn_23 : decode cX3_numberIn 23 = .ok (.bipush 48, 2) := by decide +kernel
theorem dX3_numberIn_25 : decode cX3_numberIn 25 = .ok (.isub, 1) := by decide +kernel
theorem dX3_numberIn_26 : decode cX3_numberIn 26 = .ok (.sipush 1000, 3) := by decide +kernel
theorem dX3_numberIn_29 : decode cX3_numberIn 29 = .ok (.invokestatic 72, 3) := by decide +kernel
theorem dX3_numberIn_32 : decode cX3_numberIn 32 = .ok (.istore_n 3, 1) := by decide +kernel
theorem dX3_numberIn_33 : decode cX3_numberIn 33 = .ok (.iinc 4 1, 3) := by decide +kernel
theorem dX3_numberIn_36 : decode cX3_numberIn 36 = .ok (.goto (-31), 3) := by decide +kernel
theorem dX3_numberIn_39 : decode cX3_numberIn 39 = .ok (.iload_n 3, 1) := by decide +kernel
theorem dX3_numberIn_40 : decode cX3_numberIn 40 = .ok (.ireturn, 1) := by decide +kernel
theorem dX4_init_0 : decode cX4_init 0 = .ok (.aload_n 0, 1) := by decide +kernel
theorem dX4_init_1 : decode cX4_init 1 = .ok (.invokespecial 5, 3) := by decide +kernel
theorem dX4_init_4 : decode cX4_init 4 = .ok (.aload_n 0, 1) := by decide +kernel
theorem dX4_init_5 : decode cX4_init 5 = .ok (.new 1, 3) := by decide +kernel
theorem dX4_init_8 : decode cX4_init 8 = .ok (.dup, 1) := by decide +kernel
theorem dX4_init_9 : decode cX4_init 9 = .ok (.invokespecial 11, 3) := by decide +kernel
theorem dX4_init_12 : decode cX4_init 12 = .ok (.putfield 12, 3) := by decide +kernel
theorem dX4_init_15 : decode cX4_init 15 = .ok (.aload_n 0, 1) := by decide +kernel
theorem dX4_init_16 : decode cX4_init 16 = .ok (.bipush 120, 2) := by decide +kernel
theorem dX4_init_18 : decode cX4_init 18 = .ok (.newarray .int, 2) := by decide +kernel
theorem dX4_init_20 : decode cX4_init 20 = .ok (.putfield 18, 3) := by decide +kernel
theorem dX4_init_23 : decode cX4_init 23 = .ok (.return_, 1) := by decide +kernel
theorem dX4_parse_0 : decode cX4_parse 0 = .ok (.aload_n 0, 1) := by decide +kernel
theorem dX4_parse_1 : decode cX4_parse 1 = .ok (.iload_n 1, 1) := by decide +kernel
theorem dX4_parse_2 : decode cX4_parse 2 = .ok (.putfield 22, 3) := by decide +kernel
theorem dX4_parse_5 : decode cX4_parse 5 = .ok (.aload_n 0, 1) := by decide +kernel
theorem dX4_parse_6 : decode cX4_parse 6 = .ok (.iload_n 2, 1) := by decide +kernel
theorem dX4_parse_7 : decode cX4_parse 7 = .ok (.putfield 26, 3) := by decide +kernel
theorem dX4_parse_10 : decode cX4_parse 10 = .ok (.aload_n 0, 1) := by decide +kernel
theorem dX4_parse_11 : decode cX4_parse 11 = .ok (.iconst 0, 1) := by decide +kernel
theorem dX4_parse_12 : decode cX4_parse 12 = .ok (.putfield 29, 3) := by decide +kernel
theorem dX4_parse_15 : decode cX4_parse 15 = .ok (.aload_n 0, 1) := by decide +kernel
theorem dX4_parse_16 : decode cX4_parse 16 = .ok (.iconst 0, 1) := by decide +kernel
theorem dX4_parse_17 : decode cX4_parse 17 = .ok (.putfield 32, 3) := by decide +kernel
theorem dX4_parse_20 : decode cX4_parse 20 = .ok (.aload_n 0, 1) := by decide +kernel
theorem dX4_parse_21 : decode cX4_parse 21 = .ok (.iconst (-1), 1) := by decide +kernel
theorem dX4_parse_22 : decode cX4_parse 22 = .ok (.putfield 35, 3) := by decide +kernel
theorem dX4_parse_25 : decode cX4_parse 25 = .ok (.aload_n 0, 1) := by decide +kernel
theorem dX4_parse_26 : decode cX4_parse 26 = .ok (.getfield 12, 3) := by decide +kernel
theorem dX4_parse_29 : decode cX4_parse 29 = .ok (.invokevirtual 38, 3) := by decide +kernel
theorem dX4_parse_32 : decode cX4_parse 32 = .ok (.iconst 1, 1) := by decide +kernel
theorem dX4_parse_33 : decode cX4_parse 33 = .ok (.istore_n 3, 1) := by decide +kernel
theorem dX4_parse_34 : decode cX4_parse 34 = .ok (.iconst 0, 1) := by decide +kernel
theorem dX4_parse_35 : decode cX4_parse 35 = .ok (.istore 4, 2) := by decide +kernel
theorem dX4_parse_37 : decode cX4_parse 37 = .ok (.iload 4, 2) := by decide +kernel
theorem dX4_parse_39 : decode cX4_parse 39 = .ok (.bipush 120, 2) := by decide +kernel
theorem dX4_parse_41 : decode cX4_parse 41 = .ok (.if_icmp .gt 53, 3) := by decide +kernel
theorem dX4_parse_44 : decode cX4_parse 44 = .ok (.iload_n 3, 1) := by decide +kernel
theorem dX4_parse_45 : decode cX4_parse 45 = .ok (.ifCond .eq 49, 3) := by decide +kernel
theorem dX4_parse_48 : decode cX4_parse 48 = .ok (.aload_n 0, 1) := by decide +kernel
theorem dX4_parse_49 : decode cX4_parse 49 = .ok (.invokevirtual 41, 3) := by decide +kernel
theorem dX4_parse_52 : decode cX4_parse 52 = .ok (.aload_n 0, 1) := by decide +kernel
theorem dX4_parse_53 : decode cX4_parse 53 = .ok (.getfield 35, 3) := by decide +kernel
theorem dX4_parse_56 : decode cX4_parse 56 = .ok (.iconst (-1), 1) := by decide +kernel
theorem dX4_parse_57 : decode cX4_parse 57 = .ok (.if_icmp .ne 21, 3) := by decide +kernel
theorem dX4_parse_60 : decode cX4_parse 60 = .ok (.aload_n 0, 1) := by decide +kernel
theorem dX4_parse_61 : decode cX4_parse 61 = .ok (.getfield 12, 3) := by decide +kernel
theorem dX4_parse_64 : decode cX4_parse 64 = .ok (.aload_n 0, 1) := by decide +kernel
theorem dX4_parse_65 : decode cX4_parse 65 = .ok (.getfield 32, 3) := by decide +kernel
theorem dX4_parse_68 : decode cX4_parse 68 = .ok (.invokevirtual 44, 3) := by decide +kernel
theorem dX4_parse_71 : decode cX4_parse 71 = .ok (.ifCond .eq 7, 3) := by decide +kernel
theorem dX4_parse_74 : decode cX4_parse 74 = .ok (.iconst 1, 1) := by decide +kernel
theorem dX4_parse_75 : decode cX4_parse 75 = .ok (.goto 4, 3) := by decide +kernel
theorem dX4_parse_78 : decode cX4_parse 78 = .ok (.iconst 0, 1) := by decide +kernel
theorem dX4_parse_79 : decode cX4_parse 79 = .ok (.istore_n 3, 1) := by decide +kernel
theorem dX4_parse_80 : decode cX4_parse 80 = .ok (.iload_n 3, 1) := by decide +kernel
theorem dX4_parse_81 : decode cX4_parse 81 = .ok (.ifCond .eq 7, 3) := by decide +kernel
theorem dX4_parse_84 : decode cX4_parse 84 = .ok (.aload_n 0, 1) := by decide +kernel
theorem dX4_parse_85 : decode cX4_parse 85 = .ok (.invokevirtual 48, 3) := by decide +kernel
theorem dX4_parse_88 : decode cX4_parse 88 = .ok (.iinc 4 1, 3) := by decide +kernel
theorem dX4_parse_91 : decode cX4_parse 91 = .ok (.goto (-54), 3) := by decide +kernel
theorem dX4_parse_94 : decode cX4_parse 94 = .ok (.aload_n 0, 1) := by decide +kernel
theorem dX4_parse_95 : decode cX4_parse 95 = .ok (.getfield 35, 3) := by decide +kernel
theorem dX4_parse_98 : decode cX4_parse 98 = .ok (.iconst (-1), 1) := by decide +kernel
theorem dX4_parse_99 : decode cX4_parse 99 = .ok (.if_icmp .ne 7, 3) := by decide +kernel
theorem dX4_parse_102 : decode cX4_parse 102 = .ok (.iconst (-1), 1) := by decide +kernel
theorem dX4_parse_103 : decode cX4_parse 103 = .ok (.goto 14, 3) := by decide +kernel
theorem dX4_parse_106 : decode cX4_parse 106 = .ok (.aload_n 0, 1) := by decide +kernel
theorem dX4_parse_107 : decode cX4_parse 107 = .ok (.getfield 12, 3) := by decide +kernel
theorem dX4_parse_110 : decode cX4_parse 110 = .ok (.aload_n 0, 1) := by decide +kernel
theorem dX4_parse_111 : decode cX4_parse 111 = .ok (.getfield 35, 3) := by decide +kernel
theorem dX4_parse_114 : decode cX4_parse 114 = .ok (.invokevirtual 51, 3) := by decide +kernel
theorem dX4_parse_117 : decode cX4_parse 117 = .ok (.ireturn, 1) := by decide +kernel
theorem dX4_parseItem_0 : decode cX4_parseItem 0 = .ok (.aload_n 0, 1) := by decide +kernel
theorem dX4_parseItem_1 : decode cX4_parseItem 1 = .ok (.getfield 12, 3) := by decide +kernel
theorem dX4_parseItem_4 : decode cX4_parseItem 4 = .ok (.aload_n 0, 1) := by decide +kernel
theorem dX4_parseItem_5 : decode cX4_parseItem 5 = .ok (.getfield 32, 3) := by decide +kernel
theorem dX4_parseItem_8 : decode cX4_parseItem 8 = .ok (.invokevirtual 54, 3) := by decide +kernel
theorem dX4_parseItem_11 : decode cX4_parseItem 11 = .ok (.istore_n 1, 1) := by decide +kernel
theorem dX4_parseItem_12 : decode cX4_parseItem 12 = .ok (.iload_n 1, 1) := by decide +kernel
theorem dX4_parseItem_13 : decode cX4_parseItem 13 = .ok (.tableswitch 92 7 12 #[39, 46, 54, 62, 72, 82], 39) := by decide +kernel
theorem dX4_parseItem_52 : decode cX4_parseItem 52 = .ok (.aload_n 0, 1) := by decide +kernel
theorem dX4_parseItem_53 : decode cX4_parseItem 53 = .ok (.invokevirtual 57, 3) := by decide +kernel
theorem dX4_parseItem_56 : decode cX4_parseItem 56 = .ok (.goto 68, 3) := by decide +kernel
theorem dX4_parseItem_59 : decode cX4_parseItem 59 = .ok (.aload_n 0, 1) := by decide +kernel
theorem dX4_parseItem_60 : decode cX4_parseItem 60 = .ok (.iconst 1, 1) := by decide +kernel
theorem dX4_parseItem_61 : decode cX4_parseItem 61 = .ok (.invokevirtual 60, 3) := by decide +kernel
theorem dX4_parseItem_64 : decode cX4_parseItem 64 = .ok (.goto 60, 3) := by decide +kernel
theorem dX4_parseItem_67 : decode cX4_parseItem 67 = .ok (.aload_n 0, 1) := by decide +kernel
theorem dX4_parseItem_68 : decode cX4_parseItem 68 = .ok (.iconst 0, 1) := by decide +kernel
theorem dX4_parseItem_69 : decode cX4_parseItem 69 = .ok (.invokevirtual 60, 3) := by decide +kernel
theorem dX4_parseItem_72 : decode cX4_parseItem 72 = .ok (.goto 52, 3) := by decide +kernel
theorem dX4_parseItem_75 : decode cX4_parseItem 75 = .ok (.aload_n 0, 1) := by decide +kernel
theorem dX4_parseItem_76 : decode cX4_parseItem 76 = .ok (.iconst 0, 1) := by decide +kernel
theorem dX4_parseItem_77 : decode cX4_parseItem 77 = .ok (.bipush 7, 2) := by decide +kernel
theorem dX4_parseItem_79 : decode cX4_parseItem 79 = .ok (.invokevirtual 64, 3) := by decide +kernel
theorem dX4_parseItem_82 : decode cX4_parseItem 82 = .ok (.goto 42, 3) := by decide +kernel
theorem dX4_parseItem_85 : decode cX4_parseItem 85 = .ok (.aload_n 0, 1) := by decide +kernel
theorem dX4_parseItem_86 : decode cX4_parseItem 86 = .ok (.iconst 1, 1) := by decide +kernel
theorem dX4_parseItem_87 : decode cX4_parseItem 87 = .ok (.bipush 7, 2) := by decide +kernel
theorem dX4_parseItem_89 : decode cX4_parseItem 89 = .ok (.invokevirtual 64, 3) := by decide +kernel
theorem dX4_parseItem_92 : decode cX4_parseItem 92 = .ok (.goto 32, 3) := by decide +kernel
theorem dX4_parseItem_95 : decode cX4_parseItem 95 = .ok (.aload_n 0, 1) := by decide +kernel
theorem dX4_parseItem_96 : decode cX4_parseItem 96 = .ok (.iconst 2, 1) := by decide +kernel
theorem dX4_parseItem_97 : decode cX4_parseItem 97 = .ok (.bipush 100, 2) := by decide +kernel
theorem dX4_parseItem_99 : decode cX4_parseItem 99 = .ok (.invokevirtual 64, 3) := by decide +kernel
theorem dX4_parseItem_102 : decode cX4_parseItem 102 = .ok (.goto 22, 3) := by decide +kernel
theorem dX4_parseItem_105 : decode cX4_parseItem 105 = .ok (.iload_n 1, 1) := by decide +kernel
theorem dX4_parseItem_106 : decode cX4_parseItem 106 = .ok (.invokestatic 68, 3) := by decide +kernel
theorem dX4_parseItem_109 : decode cX4_parseItem 109 = .ok (.ifCond .eq 11, 3) := by decide +kernel
theorem dX4_parseItem_112 : decode cX4_parseItem 112 = .ok (.aload_n 0, 1) := by decide +kernel
theorem dX4_parseItem_113 : decode cX4_parseItem 113 = .ok (.iload_n 1, 1) := by decide +kernel
theorem dX4_parseItem_114 : decode cX4_parseItem 114 = .ok (.invokevirtual 72, 3) := by decide +kernel
theorem dX4_parseItem_117 : decode cX4_parseItem 117 = .ok (.goto 7, 3) := by decide +kernel
theorem dX4_parseItem_120 : decode cX4_parseItem 120 = .ok (.aload_n 0, 1) := by decide +kernel
theorem dX4_parseItem_121 : decode cX4_parseItem 121 = .ok (.invokevirtual 75, 3) := by decide +kernel
theorem dX4_parseItem_124 : decode cX4_parseItem 124 = .ok (.return_, 1) := by decide +kernel
theorem dX4_parseThing_0 : decode cX4_parseThing 0 = .ok (.aload_n 0, 1) := by decide +kernel
theorem dX4_parseThing_1 : decode cX4_parseThing 1 = .ok (.getfield 22, 3) := by decide +kernel
theorem dX4_parseThing_4 : decode cX4_parseThing 4 = .ok (.bipush 8, 2) := by decide +kernel
theorem dX4_parseThing_6 : decode cX4_parseThing 6 = .ok (.if_icmp .lt 8, 3) := by decide +kernel
theorem dX4_parseThing_9 : decode cX4_parseThing 9 = .ok (.aload_n 0, 1) := by decide +kernel
theorem dX4_parseThing_10 : decode cX4_parseThing 10 = .ok (.invokevirtual 75, 3) := by decide +kernel
theorem dX4_parseThing_13 : decode cX4_parseThing 13 = .ok (.return_, 1) := by decide +kernel
theorem dX4_parseThing_14 : decode cX4_parseThing 14 = .ok (.aload_n 0, 1) := by decide +kernel
theorem dX4_parseThing_15 : decode cX4_parseThing 15 = .ok (.dup, 1) := by decide +kernel
theorem dX4_parseThing_16 : decode cX4_parseThing 16 = .ok (.getfield 22, 3) := by decide +kernel
theorem dX4_parseThing_19 : decode cX4_parseThing 19 = .ok (.iconst 1, 1) := by decide +kernel
theorem dX4_parseThing_20 : decode cX4_parseThing 20 = .ok (.iadd, 1) := by decide +kernel
theorem dX4_parseThing_21 : decode cX4_parseThing 21 = .ok (.putfield 22, 3) := by decide +kernel
theorem dX4_parseThing_24 : decode cX4_parseThing 24 = .ok (.aload_n 0, 1) := by decide +kernel
theorem dX4_parseThing_25 : decode cX4_parseThing 25 = .ok (.dup, 1) := by decide +kernel
theorem dX4_parseThing_26 : decode cX4_parseThing 26 = .ok (.getfield 32, 3) := by decide +kernel
theorem dX4_parseThing_29 : decode cX4_parseThing 29 = .ok (.iconst 1, 1) := by decide +kernel
theorem dX4_parseThing_30 : decode cX4_parseThing 30 = .ok (.iadd, 1) := by decide +kernel
theorem dX4_parseThing_31 : decode cX4_parseThing 31 = .ok (.putfield 32, 3) := by decide +kernel
theorem dX4_parseThing_34 : decode cX4_parseThing 34 = .ok (.aload_n 0, 1) := by decide +kernel
theorem dX4_parseThing_35 : decode cX4_parseThing 35 = .ok (.bipush 13, 2) := by decide +kernel
theorem dX4_parseThing_37 : decode cX4_parseThing 37 = .ok (.iconst 0, 1) := by decide +kernel
theorem dX4_parseThing_38 : decode cX4_parseThing 38 = .ok (.bipush 7, 2) := by decide +kernel
theorem dX4_parseThing_40 : decode cX4_parseThing 40 = .ok (.iconst 0, 1) := by decide +kernel
theorem dX4_parseThing_41 : decode cX4_parseThing 41 = .ok (.invokevirtual 80, 3) := by decide +kernel
theorem dX4_parseThing_44 : decode cX4_parseThing 44 = .ok (.istore_n 2, 1) := by decide +kernel
theorem dX4_parseThing_45 : decode cX4_parseThing 45 = .ok (.aload_n 0, 1) := by decide +kernel
theorem dX4_parseThing_46 : decode cX4_parseThing 46 = .ok (.bipush 14, 2) := by decide +kernel
theorem dX4_parseThing_48 : decode cX4_parseThing 48 = .ok (.iconst 1, 1) := by decide +kernel
theorem dX4_parseThing_49 : decode cX4_parseThing 49 = .ok (.bipush 60, 2) := by decide +kernel
theorem dX4_parseThing_51 : decode cX4_parseThing 51 = .ok (.bipush 8, 2) := by decide +kernel
theorem dX4_parseThing_53 : decode cX4_parseThing 53 = .ok (.invokevirtual 80, 3) := by decide +kernel
theorem dX4_parseThing_56 : decode cX4_parseThing 56 = .ok (.istore_n 3, 1) := by decide +kernel
theorem dX4_parseThing_57 : decode cX4_parseThing 57 = .ok (.aload_n 0, 1) := by decide +kernel
theorem dX4_parseThing_58 : decode cX4_parseThing 58 = .ok (.iconst 0, 1) := by decide +kernel
theorem dX4_parseThing_59 : decode cX4_parseThing 59 = .ok (.iload_n 1, 1) := by decide +kernel
theorem dX4_parseThing_60 : decode cX4_parseThing 60 = .ok (.iload_n 2, 1) := by decide +kernel
theorem dX4_parseThing_61 : decode cX4_parseThing 61 = .ok (.iload_n 3, 1) := by decide +kernel
theorem dX4_parseThing_62 : decode cX4_parseThing 62 = .ok (.invokevirtual 84, 3) := by decide +kernel
theorem dX4_parseThing_65 : decode cX4_parseThing 65 = .ok (.return_, 1) := by decide +kernel
theorem dX4_parseOne_0 : decode cX4_parseOne 0 = .ok (.aload_n 0, 1) := by decide +kernel
theorem dX4_parseOne_1 : decode cX4_parseOne 1 = .ok (.getfield 26, 3) := by decide +kernel
theorem dX4_parseOne_4 : decode cX4_parseOne 4 = .ok (.iconst 4, 1) := by decide +kernel
theorem dX4_parseOne_5 : decode cX4_parseOne 5 = .ok (.if_icmp .lt 8, 3) := by decide +kernel
theorem dX4_parseOne_8 : decode cX4_parseOne 8 = .ok (.aload_n 0, 1) := by decide +kernel
theorem dX4_parseOne_9 : decode cX4_parseOne 9 = .ok (.invokevirtual 75, 3) := by decide +kernel
theorem dX4_parseOne_12 : decode cX4_parseOne 12 = .ok (.return_, 1) := by decide +kernel
theorem dX4_parseOne_13 : decode cX4_parseOne 13 = .ok (.aload_n 0, 1) := by decide +kernel
theorem dX4_parseOne_14 : decode cX4_parseOne 14 = .ok (.dup, 1) := by decide +kernel
theorem dX4_parseOne_15 : decode cX4_parseOne 15 = .ok (.getfield 26, 3) := by decide +kernel
theorem dX4_parseOne_18 : decode cX4_parseOne 18 = .ok (.iconst 1, 1) := by decide +kernel
theorem dX4_parseOne_19 : decode cX4_parseOne 19 = .ok (.iadd, 1) := by decide +kernel
theorem dX4_parseOne_20 : decode cX4_parseOne 20 = .ok (.putfield 26, 3) := by decide +kernel
theorem dX4_parseOne_23 : decode cX4_parseOne 23 = .ok (.aload_n 0, 1) := by decide +kernel
theorem dX4_parseOne_24 : decode cX4_parseOne 24 = .ok (.dup, 1) := by decide +kernel
theorem dX4_parseOne_25 : decode cX4_parseOne 25 = .ok (.getfield 32, 3) := by decide +kernel
theorem dX4_parseOne_28 : decode cX4_parseOne 28 = .ok (.iconst 1, 1) := by decide +kernel
theorem dX4_parseOne_29 : decode cX4_parseOne 29 = .ok (.iadd, 1) := by decide +kernel
theorem dX4_parseOne_30 : decode cX4_parseOne 30 = .ok (.putfield 32, 3) := by decide +kernel
theorem dX4_parseOne_33 : decode cX4_parseOne 33 = .ok (.aload_n 0, 1) := by decide +kernel
theorem dX4_parseOne_34 : decode cX4_parseOne 34 = .ok (.bipush 13, 2) := by decide +kernel
theorem dX4_parseOne_36 : decode cX4_parseOne 36 = .ok (.iconst 0, 1) := by decide +kernel
theorem dX4_parseOne_37 : decode cX4_parseOne 37 = .ok (.bipush 7, 2) := by decide +kernel
theorem dX4_parseOne_39 : decode cX4_parseOne 39 = .ok (.iconst 0, 1) := by decide +kernel
theorem dX4_parseOne_40 : decode cX4_parseOne 40 = .ok (.invokevirtual 80, 3) := by decide +kernel
theorem dX4_parseOne_43 : decode cX4_parseOne 43 = .ok (.istore_n 1, 1) := by decide +kernel
theorem dX4_parseOne_44 : decode cX4_parseOne 44 = .ok (.aload_n 0, 1) := by decide +kernel
theorem dX4_parseOne_45 : decode cX4_parseOne 45 = .ok (.bipush 15, 2) := by decide +kernel
theorem dX4_parseOne_47 : decode cX4_parseOne 47 = .ok (.iconst 0, 1) := by decide +kernel
theorem dX4_parseOne_48 : decode cX4_parseOne 48 = .ok (.iconst 4, 1) := by decide +kernel
theorem dX4_parseOne_49 : decode cX4_parseOne 49 = .ok (.iconst 0, 1) := by decide +kernel
theorem dX4_parseOne_50 : decode cX4_parseOne 50 = .ok (.invokevirtual 80, 3) := by decide +kernel
theorem dX4_parseOne_53 : decode cX4_parseOne 53 = .ok (.istore_n 2, 1) := by decide +kernel
theorem dX4_parseOne_54 : decode cX4_parseOne 54 = .ok (.aload_n 0, 1) := by decide +kernel
theorem dX4_parseOne_55 : decode cX4_parseOne 55 = .ok (.bipush 16, 2) := by decide +kernel
theorem dX4_parseOne_57 : decode cX4_parseOne 57 = .ok (.iconst 0, 1) := by decide +kernel
theorem dX4_parseOne_58 : decode cX4_parseOne 58 = .ok (.bipush 60, 2) := by decide +kernel
theorem dX4_parseOne_60 : decode cX4_parseOne 60 = .ok (.bipush 10, 2) := by decide +kernel
theorem dX4_parseOne_62 : decode cX4_parseOne 62 = .ok (.invokevirtual 80, 3) := by decide +kernel
theorem dX4_parseOne_65 : decode cX4_parseOne 65 = .ok (.istore_n 3, 1) := by decide +kernel
theorem dX4_parseOne_66 : decode cX4_parseOne 66 = .ok (.aload_n 0, 1) := by decide +kernel
theorem dX4_parseOne_67 : decode cX4_parseOne 67 = .ok (.iconst 1, 1) := by decide +kernel
theorem dX4_parseOne_68 : decode cX4_parseOne 68 = .ok (.iload_n 2, 1) := by decide +kernel
theorem dX4_parseOne_69 : decode cX4_parseOne 69 = .ok (.bipush 8, 2) := by decide +kernel
theorem dX4_parseOne_71 : decode cX4_parseOne 71 = .ok (.imul, 1) := by decide +kernel
theorem dX4_parseOne_72 : decode cX4_parseOne 72 = .ok (.iload_n 1, 1) := by decide +kernel
theorem dX4_parseOne_73 : decode cX4_parseOne 73 = .ok (.iadd, 1) := by decide +kernel
theorem dX4_parseOne_74 : decode cX4_parseOne 74 = .ok (.iload_n 3, 1) := by decide +kernel
theorem dX4_parseOne_75 : decode cX4_parseOne 75 = .ok (.iconst 0, 1) := by decide +kernel
theorem dX4_parseOne_76 : decode cX4_parseOne 76 = .ok (.invokevirtual 84, 3) := by decide +kernel
theorem dX4_parseOne_79 : decode cX4_parseOne 79 = .ok (.return_, 1) := by decide +kernel
theorem dX4_parseDoor_0 : decode cX4_parseDoor 0 = .ok (.aload_n 0, 1) := by decide +kernel
theorem dX4_parseDoor_1 : decode cX4_parseDoor 1 = .ok (.dup, 1) := by decide +kernel
theorem dX4_parseDoor_2 : decode cX4_parseDoor 2 = .ok (.getfield 32, 3) := by decide +kernel
theorem dX4_parseDoor_5 : decode cX4_parseDoor 5 = .ok (.iconst 1, 1) := by decide +kernel
theorem dX4_parseDoor_6 : decode cX4_parseDoor 6 = .ok (.iadd, 1) := by decide +kernel
theorem dX4_parseDoor_7 : decode cX4_parseDoor 7 = .ok (.putfield 32, 3) := by decide +kernel
theorem dX4_parseDoor_10 : decode cX4_parseDoor 10 = .ok (.aload_n 0, 1) := by decide +kernel
theorem dX4_parseDoor_11 : decode cX4_parseDoor 11 = .ok (.iconst 0, 1) := by decide +kernel
theorem dX4_parseDoor_12 : decode cX4_parseDoor 12 = .ok (.bipush 7, 2) := by decide +kernel
theorem dX4_parseDoor_14 : decode cX4_parseDoor 14 = .ok (.iconst (-1), 1) := by decide +kernel
theorem dX4_parseDoor_15 : decode cX4_parseDoor 15 = .ok (.invokevirtual 88, 3) := by decide +kernel
theorem dX4_parseDoor_18 : decode cX4_parseDoor 18 = .ok (.istore_n 2, 1) := by decide +kernel
theorem dX4_parseDoor_19 : decode cX4_parseDoor 19 = .ok (.aload_n 0, 1) := by decide +kernel
theorem dX4_parseDoor_20 : decode cX4_parseDoor 20 = .ok (.iconst 0, 1) := by decide +kernel
theorem dX4_parseDoor_21 : decode cX4_parseDoor 21 = .ok (.bipush 7, 2) := by decide +kernel
theorem dX4_parseDoor_23 : decode cX4_parseDoor 23 = .ok (.iload_n 2, 1) := by decide +kernel
theorem dX4_parseDoor_24 : decode cX4_parseDoor 24 = .ok (.invokevirtual 88, 3) := by decide +kernel
theorem dX4_parseDoor_27 : decode cX4_parseDoor 27 = .ok (.istore_n 3, 1) := by decide +kernel
theorem dX4_parseDoor_28 : decode cX4_parseDoor 28 = .ok (.aload_n 0, 1) := by decide +kernel
theorem dX4_parseDoor_29 : decode cX4_parseDoor 29 = .ok (.iconst 2, 1) := by decide +kernel
theorem dX4_parseDoor_30 : decode cX4_parseDoor 30 = .ok (.iload_n 2, 1) := by decide +kernel
theorem dX4_parseDoor_31 : decode cX4_parseDoor 31 = .ok (.iload_n 3, 1) := by decide +kernel
theorem dX4_parseDoor_32 : decode cX4_parseDoor 32 = .ok (.iload_n 1, 1) := by decide +kernel
theorem dX4_parseDoor_33 : decode cX4_parseDoor 33 = .ok (.invokevirtual 84, 3) := by decide +kernel
theorem dX4_parseDoor_36 : decode cX4_parseDoor 36 = .ok (.return_, 1) := by decide +kernel
theorem dX4_parseRule_0 : decode cX4_parseRule 0 = .ok (.aload_n 0, 1) := by decide +kernel
theorem dX4_parseRule_1 : decode cX4_parseRule 1 = .ok (.dup, 1) := by decide +kernel
theorem dX4_parseRule_2 : decode cX4_parseRule 2 = .ok (.getfield 32, 3) := by decide +kernel
theorem dX4_parseRule_5 : decode cX4_parseRule 5 = .ok (.iconst 1, 1) := by decide +kernel
theorem dX4_parseRule_6 : decode cX4_parseRule 6 = .ok (.iadd, 1) := by decide +kernel
theorem dX4_parseRule_7 : decode cX4_parseRule 7 = .ok (.putfield 32, 3) := by decide +kernel
theorem dX4_parseRule_10 : decode cX4_parseRule 10 = .ok (.aload_n 0, 1) := by decide +kernel
theorem dX4_parseRule_11 : decode cX4_parseRule 11 = .ok (.iconst 0, 1) := by decide +kernel
theorem dX4_parseRule_12 : decode cX4_parseRule 12 = .ok (.iload_n 2, 1) := by decide +kernel
theorem dX4_parseRule_13 : decode cX4_parseRule 13 = .ok (.iconst (-1), 1) := by decide +kernel
theorem dX4_parseRule_14 : decode cX4_parseRule 14 = .ok (.invokevirtual 88, 3) := by decide +kernel
theorem dX4_parseRule_17 : decode cX4_parseRule 17 = .ok (.istore_n 3, 1) := by decide +kernel
theorem dX4_parseRule_18 : decode cX4_parseRule 18 = .ok (.aload_n 0, 1) := by decide +kernel
theorem dX4_parseRule_19 : decode cX4_parseRule 19 = .ok (.iconst 3, 1) := by decide +kernel
theorem dX4_parseRule_20 : decode cX4_parseRule 20 = .ok (.iload_n 1, 1) := by decide +kernel
theorem dX4_parseRule_21 : decode cX4_parseRule 21 = .ok (.iload_n 3, 1) := by decide +kernel
theorem dX4_parseRule_22 : decode cX4_parseRule 22 = .ok (.iconst 0, 1) := by decide +kernel
theorem dX4_parseRule_23 : decode cX4_parseRule 23 = .ok (.invokevirtual 84, 3) := by decide +kernel
theorem dX4_parseRule_26 : decode cX4_parseRule 26 = .ok (.return_, 1) := by decide +kernel
theorem dX4_takePerhaps_0 : decode cX4_takePerhaps 0 = .ok (.aload_n 0, 1) := by decide +kernel
theorem dX4_takePerhaps_1 : decode cX4_takePerhaps 1 = .ok (.getfield 12, 3) := by decide +kernel
theorem dX4_takePerhaps_4 : decode cX4_takePerhaps 4 = .ok (.aload_n 0, 1) := by decide +kernel
theorem dX4_takePerhaps_5 : decode cX4_takePerhaps 5 = .ok (.getfield 32, 3) := by decide +kernel
theorem dX4_takePerhaps_8 : decode cX4_takePerhaps 8 = .ok (.invokevirtual 54, 3) := by decide +kernel
theorem dX4_takePerhaps_11 : decode cX4_takePerhaps 11 = .ok (.iload_n 1, 1) := by decide +kernel
theorem dX4_takePerhaps_12 : decode cX4_takePerhaps 12 = .ok (.if_icmp .eq 6, 3) := by decide +kernel
theorem dX4_takePerhaps_15 : decode cX4_takePerhaps 15 = .ok (.iload 4, 2) := by decide +kernel
theorem dX4_takePerhaps_17 : decode cX4_takePerhaps 17 = .ok (.ireturn, 1) := by decide +kernel
theorem dX4_takePerhaps_18 : decode cX4_takePerhaps 18 = .ok (.aload_n 0, 1) := by decide +kernel
theorem dX4_takePerhaps_19 : decode cX4_takePerhaps 19 = .ok (.dup, 1) := by decide +kernel
theorem dX4_takePerhaps_20 : decode cX4_takePerhaps 20 = .ok (.getfield 32, 3) := by decide +kernel
theorem dX4_takePerhaps_23 : decode cX4_takePerhaps 23 = .ok (.iconst 1, 1) := by decide +kernel
theorem dX4_takePerhaps_24 : decode cX4_takePerhaps 24 = .ok (.iadd, 1) := by decide +kernel
theorem dX4_takePerhaps_25 : decode cX4_takePerhaps 25 = .ok (.putfield 32, 3) := by decide +kernel
theorem dX4_takePerhaps_28 : decode cX4_takePerhaps 28 = .ok (.aload_n 0, 1) := by decide +kernel
theorem dX4_takePerhaps_29 : decode cX4_takePerhaps 29 = .ok (.iload_n 2, 1) := by decide +kernel
theorem dX4_takePerhaps_30 : decode cX4_takePerhaps 30 = .ok (.iload_n 3, 1) := by decide +kernel
theorem dX4_takePerhaps_31 : decode cX4_takePerhaps 31 = .ok (.iconst (-1), 1) := by decide +kernel
theorem dX4_takePerhaps_32 : decode cX4_takePerhaps 32 = .ok (.invokevirtual 88, 3) := by decide +kernel
theorem dX4_takePerhaps_35 : decode cX4_takePerhaps 35 = .ok (.ireturn, 1) := by decide +kernel
theorem dX4_takeNumber_0 : decode cX4_takeNumber 0 = .ok (.aload_n 0, 1) := by decide +kernel
theorem dX4_takeNumber_1 : decode cX4_takeNumber 1 = .ok (.getfield 12, 3) := by decide +kernel
theorem dX4_takeNumber_4 : decode cX4_takeNumber 4 = .ok (.aload_n 0, 1) := by decide +kernel
theorem dX4_takeNumber_5 : decode cX4_takeNumber 5 = .ok (.getfield 32, 3) := by decide +kernel
theorem dX4_takeNumber_8 : decode cX4_takeNumber 8 = .ok (.invokevirtual 92, 3) := by decide +kernel
theorem dX4_takeNumber_11 : decode cX4_takeNumber 11 = .ok (.istore 4, 2) := by decide +kernel
theorem dX4_takeNumber_13 : decode cX4_takeNumber 13 = .ok (.iload 4, 2) := by decide +kernel
theorem dX4_takeNumber_15 : decode cX4_takeNumber 15 = .ok (.iload_n 1, 1) := by decide +kernel
theorem dX4_takeNumber_16 : decode cX4_takeNumber 16 = .ok (.iload_n 2, 1) := by decide +kernel
theorem dX4_takeNumber_17 : decode cX4_takeNumber 17 = .ok (.invokestatic 95, 3) := by decide +kernel
theorem dX4_takeNumber_20 : decode cX4_takeNumber 20 = .ok (.ifCond .eq 9, 3) := by decide +kernel
theorem dX4_takeNumber_23 : decode cX4_takeNumber 23 = .ok (.iload 4, 2) := by decide +kernel
theorem dX4_takeNumber_25 : decode cX4_takeNumber 25 = .ok (.iload_n 3, 1) := by decide +kernel
theorem dX4_takeNumber_26 : decode cX4_takeNumber 26 = .ok (.if_icmp .ne 9, 3) := by decide +kernel
theorem dX4_takeNumber_29 : decode cX4_takeNumber 29 = .ok (.aload_n 0, 1) := by decide +kernel
theorem dX4_takeNumber_30 : decode cX4_takeNumber 30 = .ok (.invokevirtual 75, 3) := by decide +kernel
theorem dX4_takeNumber_33 : decode cX4_takeNumber 33 = .ok (.iload_n 1, 1) := by decide +kernel
theorem dX4_takeNumber_34 : decode cX4_takeNumber 34 = .ok (.ireturn, 1) := by decide +kernel
theorem dX4_takeNumber_35 : decode cX4_takeNumber 35 = .ok (.aload_n 0, 1) := by decide +kernel
theorem dX4_takeNumber_36 : decode cX4_takeNumber 36 = .ok (.dup, 1) := by decide +kernel
theorem dX4_takeNumber_37 : decode cX4_takeNumber 37 = .ok (.getfield 32, 3) := by decide +kernel
theorem dX4_takeNumber_40 : decode cX4_takeNumber 40 = .ok (.iconst 1, 1) := by decide +kernel
theorem dX4_takeNumber_41 : decode cX4_takeNumber 41 = .ok (.iadd, 1) := by decide +kernel
theorem dX4_takeNumber_42 : decode cX4_takeNumber 42 = .ok (.putfield 32, 3) := by decide +kernel
theorem dX4_takeNumber_45 : decode cX4_takeNumber 45 = .ok (.iload 4, 2) := by decide +kernel
theorem dX4_takeNumber_47 : decode cX4_takeNumber 47 = .ok (.ireturn, 1) := by decide +kernel
theorem dX4_takeSign_0 : decode cX4_takeSign 0 = .ok (.aload_n 0, 1) := by decide +kernel
theorem dX4_takeSign_1 : decode cX4_takeSign 1 = .ok (.getfield 12, 3) := by decide +kernel
theorem dX4_takeSign_4 : decode cX4_takeSign 4 = .ok (.aload_n 0, 1) := by decide +kernel
theorem dX4_takeSign_5 : decode cX4_takeSign 5 = .ok (.getfield 32, 3) := by decide +kernel
theorem dX4_takeSign_8 : decode cX4_takeSign 8 = .ok (.invokevirtual 44, 3) := by decide +kernel
theorem dX4_takeSign_11 : decode cX4_takeSign 11 = .ok (.iconst 3, 1) := by decide +kernel
theorem dX4_takeSign_12 : decode cX4_takeSign 12 = .ok (.if_icmp .eq 8, 3) := by decide +kernel
theorem dX4_takeSign_15 : decode cX4_takeSign 15 = .ok (.aload_n 0, 1) := by decide +kernel
theorem dX4_takeSign_16 : decode cX4_takeSign 16 = .ok (.invokevirtual 75, 3) := by decide +kernel
theorem dX4_takeSign_19 : decode cX4_takeSign 19 = .ok (.return_, 1) := by decide +kernel
theorem dX4_takeSign_20 : decode cX4_takeSign 20 = .ok (.aload_n 0, 1) := by decide +kernel
theorem dX4_takeSign_21 : decode cX4_takeSign 21 = .ok (.dup, 1) := by decide +kernel
theorem dX4_takeSign_22 : decode cX4_takeSign 22 = .ok (.getfield 32, 3) := by decide +kernel
theorem dX4_takeSign_25 : decode cX4_takeSign 25 = .ok (.iconst 1, 1) := by decide +kernel
theorem dX4_takeSign_26 : decode cX4_takeSign 26 = .ok (.iadd, 1) := by decide +kernel
theorem dX4_takeSign_27 : decode cX4_takeSign 27 = .ok (.putfield 32, 3) := by decide +kernel
theorem dX4_takeSign_30 : decode cX4_takeSign 30 = .ok (.return_, 1) := by decide +kernel
theorem dX4_refuse_0 : decode cX4_refuse 0 = .ok (.aload_n 0, 1) := by decide +kernel
theorem dX4_refuse_1 : decode cX4_refuse 1 = .ok (.getfield 35, 3) := by decide +kernel
theorem dX4_refuse_4 : decode cX4_refuse 4 = .ok (.iconst (-1), 1) := by decide +kernel
theorem dX4_refuse_5 : decode cX4_refuse 5 = .ok (.if_icmp .ne 11, 3) := by decide +kernel
theorem dX4_refuse_8 : decode cX4_refuse 8 = .ok (.aload_n 0, 1) := by decide +kernel
theorem dX4_refuse_9 : decode cX4_refuse 9 = .ok (.aload_n 0, 1) := by decide +kernel
theorem dX4_refuse_10 : decode cX4_refuse 10 = .ok (.getfield 32, 3) := by decide +kernel
theorem dX4_refuse_13 : decode cX4_refuse 13 = .ok (.putfield 35, 3) := by decide +kernel
theorem dX4_refuse_16 : decode cX4_refuse 16 = .ok (.return_, 1) := by decide +kernel
theorem dX4_addItem_0 : decode cX4_addItem 0 = .ok (.aload_n 0, 1) := by decide +kernel
theorem dX4_addItem_1 : decode cX4_addItem 1 = .ok (.getfield 29, 3) := by decide +kernel
theorem dX4_addItem_4 : decode cX4_addItem 4 = .ok (.bipush 30, 2) := by decide +kernel
theorem dX4_addItem_6 : decode cX4_addItem 6 = .ok (.if_icmp .lt 4, 3) := by decide +kernel
theorem dX4_addItem_9 : decode cX4_addItem 9 = .ok (.return_, 1) := by decide +kernel
theorem dX4_addItem_10 : decode cX4_addItem 10 = .ok (.aload_n 0, 1) := by decide +kernel
theorem dX4_addItem_11 : decode cX4_addItem 11 = .ok (.getfield 29, 3) := by decide +kernel
theorem dX4_addItem_14 : decode cX4_addItem 14 = .ok (.iconst 4, 1) := by decide +kernel
theorem dX4_addItem_15 : decode cX4_addItem 15 = .ok (.imul, 1) := by decide +kernel
theorem dX4_addItem_16 : decode cX4_addItem 16 = .ok (.istore 5, 2) := by decide +kernel
theorem dX4_addItem_18 : decode cX4_addItem 18 = .ok (.aload_n 0, 1) := by decide +kernel
theorem dX4_addItem_19 : decode cX4_addItem 19 = .ok (.getfield 18, 3) := by decide +kernel
theorem dX4_addItem_22 : decode cX4_addItem 22 = .ok (.iload 5, 2) := by decide +kernel
theorem dX4_addItem_24 : decode cX4_addItem 24 = .ok (.iload_n 1, 1) := by decide +kernel
theorem dX4_addItem_25 : decode cX4_addItem 25 = .ok (.iastore, 1) := by decide +kernel
theorem dX4_addItem_26 : decode cX4_addItem 26 = .ok (.aload_n 0, 1) := by decide +kernel
theorem dX4_addItem_27 : decode cX4_addItem 27 = .ok (.getfield 18, 3) := by decide +kernel
theorem dX4_addItem_30 : decode cX4_addItem 30 = .ok (.iload 5, 2) := by decide +kernel
theorem dX4_addItem_32 : decode cX4_addItem 32 = .ok (.iconst 1, 1) := by decide +kernel
theorem dX4_addItem_33 : decode cX4_addItem 33 = .ok (.iadd, 1) := by decide +kernel
theorem dX4_addItem_34 : decode cX4_addItem 34 = .ok (.iload_n 2, 1) := by decide +kernel
theorem dX4_addItem_35 : decode cX4_addItem 35 = .ok (.iastore, 1) := by decide +kernel
theorem dX4_addItem_36 : decode cX4_addItem 36 = .ok (.aload_n 0, 1) := by decide +kernel
theorem dX4_addItem_37 : decode cX4_addItem 37 = .ok (.getfield 18, 3) := by decide +kernel
theorem dX4_addItem_40 : decode cX4_addItem 40 = .ok (.iload 5, 2) := by decide +kernel
theorem dX4_addItem_42 : decode cX4_addItem 42 = .ok (.iconst 2, 1) := by decide +kernel
theorem dX4_addItem_43 : decode cX4_addItem 43 = .ok (.iadd, 1) := by decide +kernel
theorem dX4_addItem_44 : decode cX4_addItem 44 = .ok (.iload_n 3, 1) := by decide +kernel
theorem dX4_addItem_45 : decode cX4_addItem 45 = .ok (.iastore, 1) := by decide +kernel
theorem dX4_addItem_46 : decode cX4_addItem 46 = .ok (.aload_n 0, 1) := by decide +kernel
theorem dX4_addItem_47 : decode cX4_addItem 47 = .ok (.getfield 18, 3) := by decide +kernel
theorem dX4_addItem_50 : decode cX4_addItem 50 = .ok (.iload 5, 2) := by decide +kernel
theorem dX4_addItem_52 : decode cX4_addItem 52 = .ok (.iconst 3, 1) := by decide +kernel
theorem dX4_addItem_53 : decode cX4_addItem 53 = .ok (.iadd, 1) := by decide +kernel
theorem dX4_addItem_54 : decode cX4_addItem 54 = .ok (.iload 4, 2) := by decide +kernel
theorem dX4_addItem_56 : decode cX4_addItem 56 = .ok (.iastore, 1) := by decide +kernel
theorem dX4_addItem_57 : decode cX4_addItem 57 = .ok (.aload_n 0, 1) := by decide +kernel
theorem dX4_addItem_58 : decode cX4_addItem 58 = .ok (.dup, 1) := by decide +kernel
theorem dX4_addItem_59 : decode cX4_addItem 59 = .ok (.getfield 29, 3) := by decide +kernel
theorem dX4_addItem_62 : decode cX4_addItem 62 = .ok (.iconst 1, 1) := by decide +kernel
theorem dX4_addItem_63 : decode cX4_addItem 63 = .ok (.iadd, 1) := by decide +kernel
theorem dX4_addItem_64 : decode cX4_addItem 64 = .ok (.putfield 29, 3) := by decide +kernel
theorem dX4_addItem_67 : decode cX4_addItem 67 = .ok (.return_, 1) := by decide +kernel
theorem dX5_nameOf_0 : decode cX5_nameOf 0 = .ok (.iload_n 0, 1) := by decide +kernel
theorem dX5_nameOf_1 : decode cX5_nameOf 1 = .ok (.tableswitch 134 0 16 #[83, 86, 89, 92, 95, 98, 101, 104, 107, 110, 113, 116, 119, 122, 125, 128, 131], 83) := by decide +kernel
theorem dX5_nameOf_84 : decode cX5_nameOf 84 = .ok (.ldc 7, 2) := by decide +kernel
theorem dX5_nameOf_86 : decode cX5_nameOf 86 = .ok (.areturn, 1) := by decide +kernel
theorem dX5_nameOf_87 : decode cX5_nameOf 87 = .ok (.ldc 9, 2) := by decide +kernel
theorem dX5_nameOf_89 : decode cX5_nameOf 89 = .ok (.areturn, 1) := by decide +kernel
theorem dX5_nameOf_90 : decode cX5_nameOf 90 = .ok (.ldc 11, 2) := by decide +kernel
theorem dX5_nameOf_92 : decode cX5_nameOf 92 = .ok (.areturn, 1) := by decide +kernel
theorem dX5_nameOf_93 : decode cX5_nameOf 93 = .ok (.ldc 13, 2) := by decide +kernel
theorem dX5_nameOf_95 : decode cX5_nameOf 95 = .ok (.areturn, 1) := by decide +kernel
theorem dX5_nameOf_96 : decode cX5_nameOf 96 = .ok (.ldc 15, 2) := by decide +kernel
theorem dX5_nameOf_98 : decode cX5_nameOf 98 = .ok (.areturn, 1) := by decide +kernel
theorem dX5_nameOf_99 : decode cX5_nameOf 99 = .ok (.ldc 17, 2) := by decide +kernel
theorem dX5_nameOf_101 : decode cX5_nameOf 101 = .ok (.areturn, 1) := by decide +kernel
theorem dX5_nameOf_102 : decode cX5_nameOf 102 = .ok (.ldc 19, 2) := by decide +kernel
theorem dX5_nameOf_104 : decode cX5_nameOf 104 = .ok (.areturn, 1) := by decide +kernel
theorem dX5_nameOf_105 : decode cX5_nameOf 105 = .ok (.ldc 21, 2) := by decide +kernel
theorem dX5_nameOf_107 : decode cX5_nameOf 107 = .ok (.areturn, 1) := by decide +kernel
theorem dX5_nameOf_108 : decode cX5_nameOf 108 = .ok (.ldc 23, 2) := by decide +kernel
theorem dX5_nameOf_110 : decode cX5_nameOf 110 = .ok (.areturn, 1) := by decide +kernel
theorem dX5_nameOf_111 : decode cX5_nameOf 111 = .ok (.ldc 25, 2) := by decide +kernel
theorem dX5_nameOf_113 : decode cX5_nameOf 113 = .ok (.areturn, 1) := by decide +kernel
theorem dX5_nameOf_114 : decode cX5_nameOf 114 = .ok (.ldc 27, 2) := by decide +kernel
theorem dX5_nameOf_116 : decode cX5_nameOf 116 = .ok (.areturn, 1) := by decide +kernel
theorem dX5_nameOf_117 : decode cX5_nameOf 117 = .ok (.ldc 29, 2) := by decide +kernel
theorem dX5_nameOf_119 : decode cX5_nameOf 119 = .ok (.areturn, 1) := by decide +kernel
theorem dX5_nameOf_120 : decode cX5_nameOf 120 = .ok (.ldc 31, 2) := by decide +kernel
theorem dX5_nameOf_122 : decode cX5_nameOf 122 = .ok (.areturn, 1) := by decide +kernel
theorem dX5_nameOf_123 : decode cX5_nameOf 123 = .ok (.ldc 33, 2) := by decide +kernel
theorem dX5_nameOf_125 : decode cX5_nameOf 125 = .ok (.areturn, 1) := by decide +kernel
theorem dX5_nameOf_126 : decode cX5_nameOf 126 = .ok (.ldc 35, 2) := by decide +kernel
theorem dX5_nameOf_128 : decode cX5_nameOf 128 = .ok (.areturn, 1) := by decide +kernel
theorem dX5_nameOf_129 : decode cX5_nameOf 129 = .ok (.ldc 37, 2) := by decide +kernel
theorem dX5_nameOf_131 : decode cX5_nameOf 131 = .ok (.areturn, 1) := by decide +kernel
theorem dX5_nameOf_132 : decode cX5_nameOf 132 = .ok (.ldc 39, 2) := by decide +kernel
theorem dX5_nameOf_134 : decode cX5_nameOf 134 = .ok (.areturn, 1) := by decide +kernel
theorem dX5_nameOf_135 : decode cX5_nameOf 135 = .ok (.ldc 41, 2) := by decide +kernel
theorem dX5_nameOf_137 : decode cX5_nameOf 137 = .ok (.areturn, 1) := by decide +kernel
theorem dX6_init_0 : decode cX6_init 0 = .ok (.aload_n 0, 1) := by decide +kernel
theorem dX6_init_1 : decode cX6_init 1 = .ok (.invokespecial 3, 3) := by decide +kernel
theorem dX6_init_4 : decode cX6_init 4 = .ok (.aload_n 0, 1) := by decide +kernel
theorem dX6_init_5 : decode cX6_init 5 = .ok (.bipush 8, 2) := by decide +kernel
theorem dX6_init_7 : decode cX6_init 7 = .ok (.newarray .int, 2) := by decide +kernel
theorem dX6_init_9 : decode cX6_init 9 = .ok (.putfield 9, 3) := by decide +kernel
theorem dX6_init_12 : decode cX6_init 12 = .ok (.aload_n 0, 1) := by decide +kernel
theorem dX6_init_13 : decode cX6_init 13 = .ok (.iconst 3, 1) := by decide +kernel
theorem dX6_init_14 : decode cX6_init 14 = .ok (.putfield 15, 3) := by decide +kernel
theorem dX6_init_17 : decode cX6_init 17 = .ok (.aload_n 0, 1) := by decide +kernel
theorem dX6_init_18 : decode cX6_init 18 = .ok (.bipush 8, 2) := by decide +kernel
theorem dX6_init_20 : decode cX6_init 20 = .ok (.newarray .int, 2) := by decide +kernel
theorem dX6_init_22 : decode cX6_init 22 = .ok (.putfield 19, 3) := by decide +kernel
theorem dX6_init_25 : decode cX6_init 25 = .ok (.aload_n 0, 1) := by decide +kernel
theorem dX6_init_26 : decode cX6_init 26 = .ok (.bipush 8, 2) := by decide +kernel
theorem dX6_init_28 : decode cX6_init 28 = .ok (.newarray .int, 2) := by decide +kernel
theorem dX6_init_30 : decode cX6_init 30 = .ok (.putfield 22, 3) := by decide +kernel
theorem dX6_init_33 : decode cX6_init 33 = .ok (.aload_n 0, 1) := by decide +kernel
theorem dX6_init_34 : decode cX6_init 34 = .ok (.bipush 8, 2) := by decide +kernel
theorem dX6_init_36 : decode cX6_init 36 = .ok (.newarray .int, 2) := by decide +kernel
theorem dX6_init_38 : decode cX6_init 38 = .ok (.putfield 25, 3) := by decide +kernel
theorem dX6_init_41 : decode cX6_init 41 = .ok (.aload_n 0, 1) := by decide +kernel
theorem dX6_init_42 : decode cX6_init 42 = .ok (.iconst 4, 1) := by decide +kernel
theorem dX6_init_43 : decode cX6_init 43 = .ok (.newarray .int, 2) := by decide +kernel
theorem dX6_init_45 : decode cX6_init 45 = .ok (.putfield 28, 3) := by decide +kernel
theorem dX6_init_48 : decode cX6_init 48 = .ok (.aload_n 0, 1) := by decide +kernel
theorem dX6_init_49 : decode cX6_init 49 = .ok (.iconst 4, 1) := by decide +kernel
theorem dX6_init_50 : decode cX6_init 50 = .ok (.newarray .int, 2) := by decide +kernel
theorem dX6_init_52 : decode cX6_init 52 = .ok (.putfield 31, 3) := by decide +kernel
theorem dX6_init_55 : decode cX6_init 55 = .ok (.aload_n 0, 1) := by decide +kernel
theorem dX6_init_56 : decode cX6_init 56 = .ok (.bipush 60, 2) := by decide +kernel
theorem dX6_init_58 : decode cX6_init 58 = .ok (.newarray .int, 2) := by decide +kernel
theorem dX6_init_60 : decode cX6_init 60 = .ok (.putfield 34, 3) := by decide +kernel
theorem dX6_init_63 : decode cX6_init 63 = .ok (.aload_n 0, 1) := by decide +kernel
theorem dX6_init_64 : decode cX6_init 64 = .ok (.iconst 1, 1) := by decide +kernel
theorem dX6_init_65 : decode cX6_init 65 = .ok (.putfield 37, 3) := by decide +kernel
theorem dX6_init_68 : decode cX6_init 68 = .ok (.aload_n 0, 1) := by decide +kernel
theorem dX6_init_69 : decode cX6_init 69 = .ok (.bipush 10, 2) := by decide +kernel
theorem dX6_init_71 : decode cX6_init 71 = .ok (.newarray .int, 2) := by decide +kernel
theorem dX6_init_73 : decode cX6_init 73 = .ok (.putfield 40, 3) := by decide +kernel
theorem dX6_init_76 : decode cX6_init 76 = .ok (.iconst 0, 1) := by decide +kernel
theorem dX6_init_77 : decode cX6_init 77 = .ok (.istore_n 1, 1) := by decide +kernel
theorem dX6_init_78 : decode cX6_init 78 = .ok (.iload_n 1, 1) := by decide +kernel
theorem dX6_init_79 : decode cX6_init 79 = .ok (.bipush 7, 2) := by decide +kernel
theorem dX6_init_81 : decode cX6_init 81 = .ok (.if_icmp .ge 37, 3) := by decide +kernel
theorem dX6_init_84 : decode cX6_init 84 = .ok (.aload_n 0, 1) := by decide +kernel
theorem dX6_init_85 : decode cX6_init 85 = .ok (.getfield 9, 3) := by decide +kernel
theorem dX6_init_88 : decode cX6_init 88 = .ok (.iload_n 1, 1) := by decide +kernel
theorem dX6_init_89 : decode cX6_init 89 = .ok (.dup2, 1) := by decide +kernel
theorem dX6_init_90 : decode cX6_init 90 = .ok (.iaload, 1) := by decide +kernel
theorem dX6_init_91 : decode cX6_init 91 = .ok (.iconst 1, 1) := by decide +kernel
theorem dX6_init_92 : decode cX6_init 92 = .ok (.iload_n 1, 1) := by decide +kernel
theorem dX6_init_93 : decode cX6_init 93 = .ok (.iconst 1, 1) := by decide +kernel
theorem dX6_init_94 : decode cX6_init 94 = .ok (.iadd, 1) := by decide +kernel
theorem dX6_init_95 : decode cX6_init 95 = .ok (.ishl, 1) := by decide +kernel
theorem dX6_init_96 : decode cX6_init 96 = .ok (.ior, 1) := by decide +kernel
theorem dX6_init_97 : decode cX6_init 97 = .ok (.iastore, 1) := by decide +kernel
theorem dX6_init_98 : decode cX6_init 98 = .ok (.aload_n 0, 1) := by decide +kernel
theorem dX6_init_99 : decode cX6_init 99 = .ok (.getfield 9, 3) := by decide +kernel
theorem dX6_init_102 : decode cX6_init 102 = .ok (.iload_n 1, 1) := by decide +kernel
theorem dX6_init_103 : decode cX6_init 103 = .ok (.iconst 1, 1) := by decide +kernel
theorem dX6_init_104 : decode cX6_init 104 = .ok (.iadd, 1) := by decide +kernel
theorem dX6_init_105 : decode cX6_init 105 = .ok (.dup2, 1) := by decide +kernel
theorem dX6_init_106 : decode cX6_init 106 = .ok (.iaload, 1) := by decide +kernel
theorem dX6_init_107 : decode cX6_init 107 = .ok (.iconst 1, 1) := by decide +kernel
theorem dX6_init_108 : decode cX6_init 108 = .ok (.iload_n 1, 1) := by decide +kernel
theorem dX6_init_109 : decode cX6_init 109 = .ok (.ishl, 1) := by decide +kernel
theorem dX6_init_110 : decode cX6_init 110 = .ok (.ior, 1) := by decide +kernel
theorem dX6_init_111 : decode cX6_init 111 = .ok (.iastore, 1) := by decide +kernel
theorem dX6_init_112 : decode cX6_init 112 = .ok (.iinc 1 1, 3) := by decide +kernel
theorem dX6_init_115 : decode cX6_init 115 = .ok (.goto (-37), 3) := by decide +kernel
theorem dX6_init_118 : decode cX6_init 118 = .ok (.iconst 0, 1) := by decide +kernel
theorem dX6_init_119 : decode cX6_init 119 = .ok (.istore_n 1, 1) := by decide +kernel
theorem dX6_init_120 : decode cX6_init 120 = .ok (.iload_n 1, 1) := by decide +kernel
theorem dX6_init_121 : decode cX6_init 121 = .ok (.bipush 10, 2) := by decide +kernel
theorem dX6_init_123 : decode cX6_init 123 = .ok (.if_icmp .ge 16, 3) := by decide +kernel
theorem dX6_init_126 : decode cX6_init 126 = .ok (.aload_n 0, 1) := by decide +kernel
theorem dX6_init_127 : decode cX6_init 127 = .ok (.getfield 40, 3) := by decide +kernel
theorem dX6_init_130 : decode cX6_init 130 = .ok (.iload_n 1, 1) := by decide +kernel
theorem dX6_init_131 : decode cX6_init 131 = .ok (.iconst (-1), 1) := by decide +kernel
theorem dX6_init_132 : decode cX6_init 132 = .ok (.iastore, 1) := by decide +kernel
theorem dX6_init_133 : decode cX6_init 133 = .ok (.iinc 1 1, 3) := by decide +kernel
theorem dX6_init_136 : decode cX6_init 136 = .ok (.goto (-16), 3) := by decide +kernel
theorem dX6_init_139 : decode cX6_init 139 = .ok (.return_, 1) := by decide +kernel
theorem dX6_become_0 : decode cX6_become 0 = .ok (.aload_n 1, 1) := by decide +kernel
theorem dX6_become_1 : decode cX6_become 1 = .ok (.getfield 9, 3) := by decide +kernel
theorem dX6_become_4 : decode cX6_become 4 = .ok (.iconst 0, 1) := by decide +kernel
theorem dX6_become_5 : decode cX6_become 5 = .ok (.aload_n 0, 1) := by decide +kernel
theorem dX6_become_6 : decode cX6_become 6 = .ok (.getfield 9, 3) := by decide +kernel
theorem dX6_become_9 : decode cX6_become 9 = .ok (.iconst 0, 1) := by decide +kernel
theorem dX6_become_10 : decode cX6_become 10 = .ok (.bipush 8, 2) := by decide +kernel
theorem dX6_become_12 : decode cX6_become 12 = .ok (.invokestatic 43, 3) := by decide +kernel
theorem dX6_become_15 : decode cX6_become 15 = .ok (.aload_n 0, 1) := by decide +kernel
theorem dX6_become_16 : decode cX6_become 16 = .ok (.aload_n 1, 1) := by decide +kernel
theorem dX6_become_17 : decode cX6_become 17 = .ok (.getfield 15, 3) := by decide +kernel
theorem dX6_become_20 : decode cX6_become 20 = .ok (.putfield 15, 3) := by decide +kernel
theorem dX6_become_23 : decode cX6_become 23 = .ok (.aload_n 0, 1) := by decide +kernel
theorem dX6_become_24 : decode cX6_become 24 = .ok (.aload_n 1, 1) := by decide +kernel
theorem dX6_become_25 : decode cX6_become 25 = .ok (.getfield 49, 3) := by decide +kernel
theorem dX6_become_28 : decode cX6_become 28 = .ok (.putfield 49, 3) := by decide +kernel
theorem dX6_become_31 : decode cX6_become 31 = .ok (.aload_n 0, 1) := by decide +kernel
theorem dX6_become_32 : decode cX6_become 32 = .ok (.aload_n 1, 1) := by decide +kernel
theorem dX6_become_33 : decode cX6_become 33 = .ok (.getfield 52, 3) := by decide +kernel
theorem dX6_become_36 : decode cX6_become 36 = .ok (.putfield 52, 3) := by decide +kernel
theorem dX6_become_39 : decode cX6_become 39 = .ok (.aload_n 0, 1) := by decide +kernel
theorem dX6_become_40 : decode cX6_become 40 = .ok (.aload_n 1, 1) := by decide +kernel
theorem dX6_become_41 : decode cX6_become 41 = .ok (.getfield 55, 3) := by decide +kernel
theorem dX6_become_44 : decode cX6_become 44 = .ok (.putfield 55, 3) := by decide +kernel
theorem dX6_become_47 : decode cX6_become 47 = .ok (.aload_n 1, 1) := by decide +kernel
theorem dX6_become_48 : decode cX6_become 48 = .ok (.getfield 19, 3) := by decide +kernel
theorem dX6_become_51 : decode cX6_become 51 = .ok (.iconst 0, 1) := by decide +kernel
theorem dX6_become_52 : decode cX6_become 52 = .ok (.aload_n 0, 1) := by decide +kernel
theorem dX6_become_53 : decode cX6_become 53 = .ok (.getfield 19, 3) := by decide +kernel
theorem dX6_become_56 : decode cX6_become 56 = .ok (.iconst 0, 1) := by decide +kernel
theorem dX6_become_57 : decode cX6_become 57 = .ok (.bipush 8, 2) := by decide +kernel
theorem dX6_become_59 : decode cX6_become 59 = .ok (.invokestatic 43, 3) := by decide +kernel
theorem dX6_become_62 : decode cX6_become 62 = .ok (.aload_n 1, 1) := by decide +kernel
theorem dX6_become_63 : decode cX6_become 63 = .ok (.getfield 22, 3) := by decide +kernel
theorem dX6_become_66 : decode cX6_become 66 = .ok (.iconst 0, 1) := by decide +kernel
theorem dX6_become_67 : decode cX6_become 67 = .ok (.aload_n 0, 1) := by decide +kernel
theorem dX6_become_68 : decode cX6_become 68 = .ok (.getfield 22, 3) := by decide +kernel
theorem dX6_become_71 : decode cX6_become 71 = .ok (.iconst 0, 1) := by decide +kernel
theorem dX6_become_72 : decode cX6_become 72 = .ok (.bipush 8, 2) := by decide +kernel
theorem dX6_become_74 : decode cX6_become 74 = .ok (.invokestatic 43, 3) := by decide +kernel
theorem dX6_become_77 : decode cX6_become 77 = .ok (.aload_n 1, 1) := by decide +kernel
theorem dX6_become_78 : decode cX6_become 78 = .ok (.getfield 25, 3) := by decide +kernel
theorem dX6_become_81 : decode cX6_become 81 = .ok (.iconst 0, 1) := by decide +kernel
theorem dX6_become_82 : decode cX6_become 82 = .ok (.aload_n 0, 1) := by decide +kernel
theorem dX6_become_83 : decode cX6_become 83 = .ok (.getfield 25, 3) := by decide +kernel
theorem dX6_become_86 : decode cX6_become 86 = .ok (.iconst 0, 1) := by decide +kernel
theorem dX6_become_87 : decode cX6_become 87 = .ok (.bipush 8, 2) := by decide +kernel
theorem dX6_become_89 : decode cX6_become 89 = .ok (.invokestatic 43, 3) := by decide +kernel
theorem dX6_become_92 : decode cX6_become 92 = .ok (.aload_n 0, 1) := by decide +kernel
theorem dX6_become_93 : decode cX6_become 93 = .ok (.aload_n 1, 1) := by decide +kernel
theorem dX6_become_94 : decode cX6_become 94 = .ok (.getfield 58, 3) := by decide +kernel
theorem dX6_become_97 : decode cX6_become 97 = .ok (.putfield 58, 3) := by decide +kernel
theorem dX6_become_100 : decode cX6_become 100 = .ok (.aload_n 1, 1) := by decide +kernel
theorem dX6_become_101 : decode cX6_become 101 = .ok (.getfield 28, 3) := by decide +kernel
theorem dX6_become_104 : decode cX6_become 104 = .ok (.iconst 0, 1) := by decide +kernel
theorem dX6_become_105 : decode cX6_become 105 = .ok (.aload_n 0, 1) := by decide +kernel
theorem dX6_become_106 : decode cX6_become 106 = .ok (.getfield 28, 3) := by decide +kernel
theorem dX6_become_109 : decode cX6_become 109 = .ok (.iconst 0, 1) := by decide +kernel
theorem dX6_become_110 : decode cX6_become 110 = .ok (.iconst 4, 1) := by decide +kernel
theorem dX6_become_111 : decode cX6_become 111 = .ok (.invokestatic 43, 3) := by decide +kernel
theorem dX6_become_114 : decode cX6_become 114 = .ok (.aload_n 1, 1) := by decide +kernel
theorem dX6_become_115 : decode cX6_become 115 = .ok (.getfield 31, 3) := by decide +kernel
theorem dX6_become_118 : decode cX6_become 118 = .ok (.iconst 0, 1) := by decide +kernel
theorem dX6_become_119 : decode cX6_become 119 = .ok (.aload_n 0, 1) := by decide +kernel
theorem dX6_become_120 : decode cX6_become 120 = .ok (.getfield 31, 3) := by decide +kernel
theorem dX6_become_123 : decode cX6_become 123 = .ok (.iconst 0, 1) := by decide +kernel
theorem dX6_become_124 : decode cX6_become 124 = .ok (.iconst 4, 1) := by decide +kernel
theorem dX6_become_125 : decode cX6_become 125 = .ok (.invokestatic 43, 3) := by decide +kernel
theorem dX6_become_128 : decode cX6_become 128 = .ok (.aload_n 0, 1) := by decide +kernel
theorem dX6_become_129 : decode cX6_become 129 = .ok (.aload_n 1, 1) := by decide +kernel
theorem dX6_become_130 : decode cX6_become 130 = .ok (.getfield 61, 3) := by decide +kernel
theorem dX6_become_133 : decode cX6_become 133 = .ok (.putfield 61, 3) := by decide +kernel
theorem dX6_become_136 : decode cX6_become 136 = .ok (.aload_n 0, 1) := by decide +kernel
theorem dX6_become_137 : decode cX6_become 137 = .ok (.aload_n 1, 1) := by decide +kernel
theorem dX6_become_138 : decode cX6_become 138 = .ok (.getfield 64, 3) := by decide +kernel
theorem dX6_become_141 : decode cX6_become 141 = .ok (.putfield 64, 3) := by decide +kernel
theorem dX6_become_144 : decode cX6_become 144 = .ok (.aload_n 0, 1) := by decide +kernel
theorem dX6_become_145 : decode cX6_become 145 = .ok (.aload_n 1, 1) := by decide +kernel
theorem dX6_become_146 : decode cX6_become 146 = .ok (.getfield 67, 3) := by decide +kernel
theorem dX6_become_149 : decode cX6_become 149 = .ok (.putfield 67, 3) := by decide +kernel
theorem dX6_become_152 : decode cX6_become 152 = .ok (.aload_n 1, 1) := by decide +kernel
theorem dX6_become_153 : decode cX6_become 153 = .ok (.getfield 34, 3) := by decide +kernel
theorem dX6_become_156 : decode cX6_become 156 = .ok (.iconst 0, 1) := by decide +kernel
theorem dX6_become_157 : decode cX6_become 157 = .ok (.aload_n 0, 1) := by decide +kernel
theorem dX6_become_158 : decode cX6_become 158 = .ok (.getfield 34, 3) := by decide +kernel
theorem dX6_become_161 : decode cX6_become 161 = .ok (.iconst 0, 1) := by decide +kernel
theorem dX6_become_162 : decode cX6_become 162 = .ok (.bipush 60, 2) := by decide +kernel
theorem dX6_become_164 : decode cX6_become 164 = .ok (.invokestatic 43, 3) := by decide +kernel
theorem dX6_become_167 : decode cX6_become 167 = .ok (.aload_n 0, 1) := by decide +kernel
theorem dX6_become_168 : decode cX6_become 168 = .ok (.aload_n 1, 1) := by decide +kernel
theorem dX6_become_169 : decode cX6_become 169 = .ok (.getfield 70, 3) := by decide +kernel
theorem dX6_become_172 : decode cX6_become 172 = .ok (.putfield 70, 3) := by decide +kernel
theorem dX6_become_175 : decode cX6_become 175 = .ok (.aload_n 0, 1) := by decide +kernel
theorem dX6_become_176 : decode cX6_become 176 = .ok (.aload_n 1, 1) := by decide +kernel
theorem dX6_become_177 : decode cX6_become 177 = .ok (.getfield 37, 3) := by decide +kernel
theorem dX6_become_180 : decode cX6_become 180 = .ok (.putfield 37, 3) := by decide +kernel
theorem dX6_become_183 : decode cX6_become 183 = .ok (.aload_n 1, 1) := by decide +kernel
theorem dX6_become_184 : decode cX6_become 184 = .ok (.getfield 40, 3) := by decide +kernel
theorem dX6_become_187 : decode cX6_become 187 = .ok (.iconst 0, 1) := by decide +kernel
theorem dX6_become_188 : decode cX6_become 188 = .ok (.aload_n 0, 1) := by decide +kernel
theorem dX6_become_189 : decode cX6_become 189 = .ok (.getfield 40, 3) := by decide +kernel
theorem dX6_become_192 : decode cX6_become 192 = .ok (.iconst 0, 1) := by decide +kernel
theorem dX6_become_193 : decode cX6_become 193 = .ok (.bipush 10, 2) := by decide +kernel
theorem dX6_become_195 : decode cX6_become 195 = .ok (.invokestatic 43, 3) := by decide +kernel
theorem dX6_become_198 : decode cX6_become 198 = .ok (.return_, 1) := by decide +kernel
theorem dX6_isOpen_0 : decode cX6_isOpen 0 = .ok (.aload_n 0, 1) := by decide +kernel
theorem dX6_isOpen_1 : decode cX6_isOpen 1 = .ok (.getfield 9, 3) := by decide +kernel
theorem dX6_isOpen_4 : decode cX6_isOpen 4 = .ok (.iload_n 1, 1) := by decide +kernel
theorem dX6_isOpen_5 : decode cX6_isOpen 5 = .ok (.iaload, 1) := by decide +kernel
theorem dX6_isOpen_6 : decode cX6_isOpen 6 = .ok (.iload_n 2, 1) := by decide +kernel
theorem dX6_isOpen_7 : decode cX6_isOpen 7 = .ok (.ishr, 1) := by decide +kernel
theorem dX6_isOpen_8 : decode cX6_isOpen 8 = .ok (.iconst 1, 1) := by decide +kernel
theorem dX6_isOpen_9 : decode cX6_isOpen 9 = .ok (.iand, 1) := by decide +kernel
theorem dX6_isOpen_10 : decode cX6_isOpen 10 = .ok (.iconst 1, 1) := by decide +kernel
theorem dX6_isOpen_11 : decode cX6_isOpen 11 = .ok (.if_icmp .ne 7, 3) := by decide +kernel
theorem dX6_isOpen_14 : decode cX6_isOpen 14 = .ok (.iconst 1, 1) := by decide +kernel
theorem dX6_isOpen_15 : decode cX6_isOpen 15 = .ok (.goto 4, 3) := by decide +kernel
theorem dX6_isOpen_18 : decode cX6_isOpen 18 = .ok (.iconst 0, 1) := by decide +kernel
theorem dX6_isOpen_19 : decode cX6_isOpen 19 = .ok (.ireturn, 1) := by decide +kernel
theorem dX6_setDoor_0 : decode cX6_setDoor 0 = .ok (.iload_n 3, 1) := by decide +kernel
theorem dX6_setDoor_1 : decode cX6_setDoor 1 = .ok (.ifCond .eq 30, 3) := by decide +kernel
theorem dX6_setDoor_4 : decode cX6_setDoor 4 = .ok (.aload_n 0, 1) := by decide +kernel
theorem dX6_setDoor_5 : decode cX6_setDoor 5 = .ok (.getfield 9, 3) := by decide +kernel
theorem dX6_setDoor_8 : decode cX6_setDoor 8 = .ok (.iload_n 1, 1) := by decide +kernel
theorem dX6_setDoor_9 : decode cX6_setDoor 9 = .ok (.dup2, 1) := by decide +kernel
theorem dX6_setDoor_10 : decode cX6_setDoor 10 = .ok (.iaload, 1) := by decide +kernel
theorem dX6_setDoor_11 : decode cX6_setDoor 11 = .ok (.iconst 1, 1) := by decide +kernel
theorem dX6_setDoor_12 : decode cX6_setDoor 12 = .ok (.iload_n 2, 1) := by decide +kernel
theorem dX6_setDoor_13 : decode cX6_setDoor 13 = .ok (.ishl, 1) := by decide +kernel
theorem dX6_setDoor_14 : decode cX6_setDoor 14 = .ok (.ior, 1) := by decide +kernel
theorem dX6_setDoor_15 : decode cX6_setDoor 15 = .ok (.iastore, 1) := by decide +kernel
theorem dX6_setDoor_16 : decode cX6_setDoor 16 = .ok (.aload_n 0, 1) := by decide +kernel
theorem dX6_setDoor_17 : decode cX6_setDoor 17 = .ok (.getfield 9, 3) := by decide +kernel
theorem dX6_setDoor_20 : decode cX6_setDoor 20 = .ok (.iload_n 2, 1) := by decide +kernel
theorem dX6_setDoor_21 : decode cX6_setDoor 21 = .ok (.dup2, 1) := by decide +kernel
theorem dX6_setDoor_22 : decode cX6_setDoor 22 = .ok (.iaload, 1) := by decide +kernel
theorem dX6_setDoor_23 : decode cX6_setDoor 23 = .ok (.iconst 1, 1) := by decide +kernel
theorem dX6_setDoor_24 : decode cX6_setDoor 24 = .ok (.iload_n 1, 1) := by decide +kernel
theorem dX6_setDoor_25 : decode cX6_setDoor 25 = .ok (.ishl, 1) := by decide +kernel
theorem dX6_setDoor_26 : decode cX6_setDoor 26 = .ok (.ior, 1) := by decide +kernel
theorem dX6_setDoor_27 : decode cX6_setDoor 27 = .ok (.iastore, 1) := by decide +kernel
theorem dX6_setDoor_28 : decode cX6_setDoor 28 = .ok (.goto 31, 3) := by decide +kernel
theorem dX6_setDoor_31 : decode cX6_setDoor 31 = .ok (.aload_n 0, 1) := by decide +kernel
theorem dX6_setDoor_32 : decode cX6_setDoor 32 = .ok (.getfield 9, 3) := by decide +kernel
theorem dX6_setDoor_35 : decode cX6_setDoor 35 = .ok (.iload_n 1, 1) := by decide +kernel
theorem dX6_setDoor_36 : decode cX6_setDoor 36 = .ok (.dup2, 1) := by decide +kernel
theorem dX6_setDoor_37 : decode cX6_setDoor 37 = .ok (.iaload, 1) := by decide +kernel
theorem dX6_setDoor_38 : decode cX6_setDoor 38 = .ok (.iconst 1, 1) := by decide +kernel
theorem dX6_setDoor_39 : decode cX6_setDoor 39 = .ok (.iload_n 2, 1) := by decide +kernel
theorem dX6_setDoor_40 : decode cX6_setDoor 40 = .ok (.ishl, 1) := by decide +kernel
theorem dX6_setDoor_41 : decode cX6_setDoor 41 = .ok (.iconst (-1), 1) := by decide +kernel
theorem dX6_setDoor_42 : decode cX6_setDoor 42 = .ok (.ixor, 1) := by decide +kernel
theorem dX6_setDoor_43 : decode cX6_setDoor 43 = .ok (.iand, 1) := by decide +kernel
theorem dX6_setDoor_44 : decode cX6_setDoor 44 = .ok (.iastore, 1) := by decide +kernel
theorem dX6_setDoor_45 : decode cX6_setDoor 45 = .ok (.aload_n 0, 1) := by decide +kernel
theorem dX6_setDoor_46 : decode cX6_setDoor 46 = .ok (.getfield 9, 3) := by decide +kernel
theorem dX6_setDoor_49 : decode cX6_setDoor 49 = .ok (.iload_n 2, 1) := by decide +kernel
theorem dX6_setDoor_50 : decode cX6_setDoor 50 = .ok (.dup2, 1) := by decide +kernel
theorem dX6_setDoor_51 : decode cX6_setDoor 51 = .ok (.iaload, 1) := by decide +kernel
theorem dX6_setDoor_52 : decode cX6_setDoor 52 = .ok (.iconst 1, 1) := by decide +kernel
theorem dX6_setDoor_53 : decode cX6_setDoor 53 = .ok (.iload_n 1, 1) := by decide +kernel
theorem dX6_setDoor_54 : decode cX6_setDoor 54 = .ok (.ishl, 1) := by decide +kernel
theorem dX6_setDoor_55 : decode cX6_setDoor 55 = .ok (.iconst (-1), 1) := by decide +kernel
theorem dX6_setDoor_56 : decode cX6_setDoor 56 = .ok (.ixor, 1) := by decide +kernel
theorem dX6_setDoor_57 : decode cX6_setDoor 57 = .ok (.iand, 1) := by decide +kernel
theorem dX6_setDoor_58 : decode cX6_setDoor 58 = .ok (.iastore, 1) := by decide +kernel
theorem dX6_setDoor_59 : decode cX6_setDoor 59 = .ok (.return_, 1) := by decide +kernel
theorem dX6_setRule_0 : decode cX6_setRule 0 = .ok (.iload_n 1, 1) := by decide +kernel
theorem dX6_setRule_1 : decode cX6_setRule 1 = .ok (.lookupswitch 53 #[(0, 27), (1, 40)], 27) := by decide +kernel
theorem dX6_setRule_28 : decode cX6_setRule 28 = .ok (.aload_n 0, 1) := by decide +kernel
theorem dX6_setRule_29 : decode cX6_setRule 29 = .ok (.getfield 15, 3) := by decide +kernel
theorem dX6_setRule_32 : decode cX6_setRule 32 = .ok (.istore_n 3, 1) := by decide +kernel
theorem dX6_setRule_33 : decode cX6_setRule 33 = .ok (.aload_n 0, 1) := by decide +kernel
theorem dX6_setRule_34 : decode cX6_setRule 34 = .ok (.iload_n 2, 1) := by decide +kernel
theorem dX6_setRule_35 : decode cX6_setRule 35 = .ok (.putfield 15, 3) := by decide +kernel
theorem dX6_setRule_38 : decode cX6_setRule 38 = .ok (.goto 26, 3) := by decide +kernel
theorem dX6_setRule_41 : decode cX6_setRule 41 = .ok (.aload_n 0, 1) := by decide +kernel
theorem dX6_setRule_42 : decode cX6_setRule 42 = .ok (.getfield 49, 3) := by decide +kernel
theorem dX6_setRule_45 : decode cX6_setRule 45 = .ok (.istore_n 3, 1) := by decide +kernel
theorem dX6_setRule_46 : decode cX6_setRule 46 = .ok (.aload_n 0, 1) := by decide +kernel
theorem dX6_setRule_47 : decode cX6_setRule 47 = .ok (.iload_n 2, 1) := by decide +kernel
theorem dX6_setRule_48 : decode cX6_setRule 48 = .ok (.putfield 49, 3) := by decide +kernel
theorem dX6_setRule_51 : decode cX6_setRule 51 = .ok (.goto 13, 3) := by decide +kernel
theorem dX6_setRule_54 : decode cX6_setRule 54 = .ok (.aload_n 0, 1) := by decide +kernel
theorem dX6_setRule_55 : decode cX6_setRule 55 = .ok (.getfield 52, 3) := by decide +kernel
theorem dX6_setRule_58 : decode cX6_setRule 58 = .ok (.istore_n 3, 1) := by decide +kernel
theorem dX6_setRule_59 : decode cX6_setRule 59 = .ok (.aload_n 0, 1) := by decide +kernel
theorem dX6_setRule_60 : decode cX6_setRule 60 = .ok (.iload_n 2, 1) := by decide +kernel
theorem dX6_setRule_61 : decode cX6_setRule 61 = .ok (.putfield 52, 3) := by decide +kernel
theorem dX6_setRule_64 : decode cX6_setRule 64 = .ok (.iload_n 3, 1) := by decide +kernel
theorem dX6_setRule_65 : decode cX6_setRule 65 = .ok (.ireturn, 1) := by decide +kernel
theorem dX6_addThing_0 : decode cX6_addThing 0 = .ok (.aload_n 0, 1) := by decide +kernel
theorem dX6_addThing_1 : decode cX6_addThing 1 = .ok (.getfield 55, 3) := by decide +kernel
theorem dX6_addThing_4 : decode cX6_addThing 4 = .ok (.bipush 8, 2) := by decide +kernel
theorem dX6_addThing_6 : decode cX6_addThing 6 = .ok (.if_icmp .lt 6, 3) := by decide +kernel
theorem dX6_addThing_9 : decode cX6_addThing 9 = .ok (.ldc 73, 2) := by decide +kernel
theorem dX6_addThing_11 : decode cX6_addThing 11 = .ok (.ireturn, 1) := by decide +kernel
theorem dX6_addThing_12 : decode cX6_addThing 12 = .ok (.aload_n 0, 1) := by decide +kernel
theorem dX6_addThing_13 : decode cX6_addThing 13 = .ok (.getfield 19, 3) := by decide +kernel
theorem dX6_addThing_16 : decode cX6_addThing 16 = .ok (.aload_n 0, 1) := by decide +kernel
theorem dX6_addThing_17 : decode cX6_addThing 17 = .ok (.getfield 55, 3) := by decide +kernel
theorem dX6_addThing_20 : decode cX6_addThing 20 = .ok (.iload_n 1, 1) := by decide +kernel
theorem dX6_addThing_21 : decode cX6_addThing 21 = .ok (.iastore, 1) := by decide +kernel
theorem dX6_addThing_22 : decode cX6_addThing 22 = .ok (.aload_n 0, 1) := by decide +kernel
theorem dX6_addThing_23 : decode cX6_addThing 23 = .ok (.getfield 22, 3) := by decide +kernel
theorem dX6_addThing_26 : decode cX6_addThing 26 = .ok (.aload_n 0, 1) := by decide +kernel
theorem dX6_addThing_27 : decode cX6_addThing 27 = .ok (.getfield 55, 3) := by decide +kernel
theorem dX6_addThing_30 : decode cX6_addThing 30 = .ok (.iload_n 2, 1) := by decide +kernel
theorem dX6_addThing_31 : decode cX6_addThing 31 = .ok (.iastore, 1) := by decide +kernel
theorem dX6_addThing_32 : decode cX6_addThing 32 = .ok (.aload_n 0, 1) := by decide +kernel
theorem dX6_addThing_33 : decode cX6_addThing 33 = .ok (.getfield 25, 3) := by decide +kernel
theorem dX6_addThing_36 : decode cX6_addThing 36 = .ok (.aload_n 0, 1) := by decide +kernel
theorem dX6_addThing_37 : decode cX6_addThing 37 = .ok (.getfield 55, 3) := by decide +kernel
theorem dX6_addThing_40 : decode cX6_addThing 40 = .ok (.iload_n 3, 1) := by decide +kernel
theorem dX6_addThing_41 : decode cX6_addThing 41 = .ok (.iastore, 1) := by decide +kernel
theorem dX6_addThing_42 : decode cX6_addThing 42 = .ok (.aload_n 0, 1) := by decide +kernel
theorem dX6_addThing_43 : decode cX6_addThing 43 = .ok (.dup, 1) := by decide +kernel
theorem dX6_addThing_44 : decode cX6_addThing 44 = .ok (.getfield 55, 3) := by decide +kernel
theorem dX6_addThing_47 : decode cX6_addThing 47 = .ok (.iconst 1, 1) := by decide +kernel
theorem dX6_addThing_48 : decode cX6_addThing 48 = .ok (.iadd, 1) := by decide +kernel
theorem dX6_addThing_49 : decode cX6_addThing 49 = .ok (.putfield 55, 3) := by decide +kernel
theorem dX6_addThing_52 : decode cX6_addThing 52 = .ok (.aload_n 0, 1) := by decide +kernel
theorem dX6_addThing_53 : decode cX6_addThing 53 = .ok (.getfield 55, 3) := by decide +kernel
theorem dX6_addThing_56 : decode cX6_addThing 56 = .ok (.iconst 1, 1) := by decide +kernel
theorem dX6_addThing_57 : decode cX6_addThing 57 = .ok (.isub, 1) := by decide +kernel
theorem dX6_addThing_58 : decode cX6_addThing 58 = .ok (.ireturn, 1) := by decide +kernel
theorem dX6_partOf_0 : decode cX6_partOf 0 = .ok (.iload_n 2, 1) := by decide +kernel
theorem dX6_partOf_1 : decode cX6_partOf 1 = .ok (.lookupswitch 41 #[(0, 27), (1, 34)], 27) := by decide +kernel
theorem dX6_partOf_28 : decode cX6_partOf 28 = .ok (.aload_n 0, 1) := by decide +kernel
theorem dX6_partOf_29 : decode cX6_partOf 29 = .ok (.getfield 19, 3) := by decide +kernel
theorem dX6_partOf_32 : decode cX6_partOf 32 = .ok (.iload_n 1, 1) := by decide +kernel
theorem dX6_partOf_33 : decode cX6_partOf 33 = .ok (.iaload, 1) := by decide +kernel
theorem dX6_partOf_34 : decode cX6_partOf 34 = .ok (.ireturn, 1) := by decide +kernel
theorem dX6_partOf_35 : decode cX6_partOf 35 = .ok (.aload_n 0, 1) := by decide +kernel
theorem dX6_partOf_36 : decode cX6_partOf 36 = .ok (.getfield 22, 3) := by decide +kernel
theorem dX6_partOf_39 : decode cX6_partOf 39 = .ok (.iload_n 1, 1) := by decide +kernel
theorem dX6_partOf_40 : decode cX6_partOf 40 = .ok (.iaload, 1) := by decide +kernel
theorem dX6_partOf_41 : decode cX6_partOf 41 = .ok (.ireturn, 1) := by decide +kernel
theorem dX6_partOf_42 : decode cX6_partOf 42 = .ok (.aload_n 0, 1) := by decide +kernel
theorem dX6_partOf_43 : decode cX6_partOf 43 = .ok (.getfield 25, 3) := by decide +kernel
theorem dX6_partOf_46 : decode cX6_partOf 46 = .ok (.iload_n 1, 1) := by decide +kernel
theorem dX6_partOf_47 : decode cX6_partOf 47 = .ok (.iaload, 1) := by decide +kernel
theorem dX6_partOf_48 : decode cX6_partOf 48 = .ok (.ireturn, 1) := by decide +kernel
theorem dX6_setPart_0 : decode cX6_setPart 0 = .ok (.iload_n 2, 1) := by decide +kernel
theorem dX6_setPart_1 : decode cX6_setPart 1 = .ok (.lookupswitch 47 #[(0, 27), (1, 37)], 27) := by decide +kernel
theorem dX6_setPart_28 : decode cX6_setPart 28 = .ok (.aload_n 0, 1) := by decide +kernel
theorem dX6_setPart_29 : decode cX6_setPart 29 = .ok (.getfield 19, 3) := by decide +kernel
theorem dX6_setPart_32 : decode cX6_setPart 32 = .ok (.iload_n 1, 1) := by decide +kernel
theorem dX6_setPart_33 : decode cX6_setPart 33 = .ok (.iload_n 3, 1) := by decide +kernel
theorem dX6_setPart_34 : decode cX6_setPart 34 = .ok (.iastore, 1) := by decide +kernel
theorem dX6_setPart_35 : decode cX6_setPart 35 = .ok (.goto 20, 3) := by decide +kernel
theorem dX6_setPart_38 : decode cX6_setPart 38 = .ok (.aload_n 0, 1) := by decide +kernel
theorem dX6_setPart_39 : decode cX6_setPart 39 = .ok (.getfield 22, 3) := by decide +kernel
theorem dX6_setPart_42 : decode cX6_setPart 42 = .ok (.iload_n 1, 1) := by decide +kernel
theorem dX6_setPart_43 : decode cX6_setPart 43 = .ok (.iload_n 3, 1) := by decide +kernel
theorem dX6_setPart_44 : decode cX6_setPart 44 = .ok (.iastore, 1) := by decide +kernel
theorem dX6_setPart_45 : decode cX6_setPart 45 = .ok (.goto 10, 3) := by decide +kernel
theorem dX6_setPart_48 : decode cX6_setPart 48 = .ok (.aload_n 0, 1) := by decide +kernel
theorem dX6_setPart_49 : decode cX6_setPart 49 = .ok (.getfield 25, 3) := by decide +kernel
theorem dX6_setPart_52 : decode cX6_setPart 52 = .ok (.iload_n 1, 1) := by decide +kernel
theorem dX6_setPart_53 : decode cX6_setPart 53 = .ok (.iload_n 3, 1) := by decide +kernel
theorem dX6_setPart_54 : decode cX6_setPart 54 = .ok (.iastore, 1) := by decide +kernel
theorem dX6_setPart_55 : decode cX6_setPart 55 = .ok (.return_, 1) := by decide +kernel
theorem dX6_weightIn_0 : decode cX6_weightIn 0 = .ok (.aload_n 0, 1) := by decide +kernel
theorem dX6_weightIn_1 : decode cX6_weightIn 1 = .ok (.getfield 19, 3) := by decide +kernel
theorem dX6_weightIn_4 : decode cX6_weightIn 4 = .ok (.iload_n 1, 1) := by decide +kernel
theorem dX6_weightIn_5 : decode cX6_weightIn 5 = .ok (.iaload, 1) := by decide +kernel
theorem dX6_weightIn_6 : decode cX6_weightIn 6 = .ok (.aload_n 0, 1) := by decide +kernel
theorem dX6_weightIn_7 : decode cX6_weightIn 7 = .ok (.getfield 25, 3) := by decide +kernel
theorem dX6_weightIn_10 : decode cX6_weightIn 10 = .ok (.iload_n 1, 1) := by decide +kernel
theorem dX6_weightIn_11 : decode cX6_weightIn 11 = .ok (.iaload, 1) := by decide +kernel
theorem dX6_weightIn_12 : decode cX6_weightIn 12 = .ok (.iload_n 2, 1) := by decide +kernel
theorem dX6_weightIn_13 : decode cX6_weightIn 13 = .ok (.invokestatic 74, 3) := by decide +kernel
theorem dX6_weightIn_16 : decode cX6_weightIn 16 = .ok (.ireturn, 1) := by decide +kernel
theorem dX6_weighsSomewhere_0 : decode cX6_weighsSomewhere 0 = .ok (.iconst 0, 1) := by decide +kernel
theorem dX6_weighsSomewhere_1 : decode cX6_weighsSomewhere 1 = .ok (.istore_n 3, 1) := by decide +kernel
theorem dX6_weighsSomewhere_2 : decode cX6_weighsSomewhere 2 = .ok (.iload_n 3, 1) := by decide +kernel
theorem dX6_weighsSomewhere_3 : decode cX6_weighsSomewhere 3 = .ok (.iconst 5, 1) := by decide +kernel
theorem dX6_weighsSomewhere_4 : decode cX6_weighsSomewhere 4 = .ok (.if_icmp .ge 21, 3) := by decide +kernel
theorem dX6_weighsSomewhere_7 : decode cX6_weighsSomewhere 7 = .ok (.aload_n 0, 1) := by decide +kernel
theorem dX6_weighsSomewhere_8 : decode cX6_weighsSomewhere 8 = .ok (.iload_n 1, 1) := by decide +kernel
theorem dX6_weighsSomewhere_9 : decode cX6_weighsSomewhere 9 = .ok (.iload_n 3, 1) := by decide +kernel
theorem dX6_weighsSomewhere_10 : decode cX6_weighsSomewhere 10 = .ok (.invokevirtual 80, 3) := by decide +kernel
theorem dX6_weighsSomewhere_13 : decode cX6_weighsSomewhere 13 = .ok (.iload_n 2, 1) := by decide +kernel
theorem dX6_weighsSomewhere_14 : decode cX6_weighsSomewhere 14 = .ok (.if_icmp .ne 5, 3) := by decide +kernel
theorem dX6_weighsSomewhere_17 : decode cX6_weighsSomewhere 17 = .ok (.iconst 1, 1) := by decide +kernel
theorem dX6_weighsSomewhere_18 : decode cX6_weighsSomewhere 18 = .ok (.ireturn, 1) := by decide +kernel
theorem dX6_weighsSomewhere_19 : decode cX6_weighsSomewhere 19 = .ok (.iinc 3 1, 3) := by decide +kernel
theorem dX6_weighsSomewhere_22 : decode cX6_weighsSomewhere 22 = .ok (.goto (-20), 3) := by decide +kernel
theorem dX6_weighsSomewhere_25 : decode cX6_weighsSomewhere 25 = .ok (.iconst 0, 1) := by decide +kernel
theorem dX6_weighsSomewhere_26 : decode cX6_weighsSomewhere 26 = .ok (.ireturn, 1) := by decide +kernel
theorem dX6_thingsIn_0 : decode cX6_thingsIn 0 = .ok (.iconst 0, 1) := by decide +kernel
theorem dX6_thingsIn_1 : decode cX6_thingsIn 1 = .ok (.istore_n 2, 1) := by decide +kernel
theorem dX6_thingsIn_2 : decode cX6_thingsIn 2 = .ok (.iconst 0, 1) := by decide +kernel
theorem dX6_thingsIn_3 : decode cX6_thingsIn 3 = .ok (.istore_n 3, 1) := by decide +kernel
theorem dX6_thingsIn_4 : decode cX6_thingsIn 4 = .ok (.iload_n 3, 1) := by decide +kernel
theorem dX6_thingsIn_5 : decode cX6_thingsIn 5 = .ok (.aload_n 0, 1) := by decide +kernel
theorem dX6_thingsIn_6 : decode cX6_thingsIn 6 = .ok (.getfield 55, 3) := by decide +kernel
theorem dX6_thingsIn_9 : decode cX6_thingsIn 9 = .ok (.if_icmp .ge 25, 3) := by decide +kernel
theorem dX6_thingsIn_12 : decode cX6_thingsIn 12 = .ok (.aload_n 0, 1) := by decide +kernel
theorem dX6_thingsIn_13 : decode cX6_thingsIn 13 = .ok (.getfield 22, 3) := by decide +kernel
theorem dX6_thingsIn_16 : decode cX6_thingsIn 16 = .ok (.iload_n 3, 1) := by decide +kernel
theorem dX6_thingsIn_17 : decode cX6_thingsIn 17 = .ok (.iaload, 1) := by decide +kernel
theorem dX6_thingsIn_18 : decode cX6_thingsIn 18 = .ok (.iload_n 1, 1) := by decide +kernel
theorem dX6_thingsIn_19 : decode cX6_thingsIn 19 = .ok (.if_icmp .ne 9, 3) := by decide +kernel
theorem dX6_thingsIn_22 : decode cX6_thingsIn 22 = .ok (.iload_n 2, 1) := by decide +kernel
theorem dX6_thingsIn_23 : decode cX6_thingsIn 23 = .ok (.iconst 1, 1) := by decide +kernel
theorem dX6_thingsIn_24 : decode cX6_thingsIn 24 = .ok (.iload_n 3, 1) := by decide +kernel
theorem dX6_thingsIn_25 : decode cX6_thingsIn 25 = .ok (.ishl, 1) := by decide +kernel
theorem dX6_thingsIn_26 : decode cX6_thingsIn 26 = .ok (.ior, 1) := by decide +kernel
theorem dX6_thingsIn_27 : decode cX6_thingsIn 27 = .ok (.istore_n 2, 1) := by decide +kernel
theorem dX6_thingsIn_28 : decode cX6_thingsIn 28 = .ok (.iinc 3 1, 3) := by decide +kernel
theorem dX6_thingsIn_31 : decode cX6_thingsIn 31 = .ok (.goto (-27), 3) := by decide +kernel
theorem dX6_thingsIn_34 : decode cX6_thingsIn 34 = .ok (.iload_n 2, 1) := by decide +kernel
theorem dX6_thingsIn_35 : decode cX6_thingsIn 35 = .ok (.ireturn, 1) := by decide +kernel
theorem dX6_addOne_0 : decode cX6_addOne 0 = .ok (.aload_n 0, 1) := by decide +kernel
theorem dX6_addOne_1 : decode cX6_addOne 1 = .ok (.getfield 58, 3) := by decide +kernel
theorem dX6_addOne_4 : decode cX6_addOne 4 = .ok (.iconst 4, 1) := by decide +kernel
theorem dX6_addOne_5 : decode cX6_addOne 5 = .ok (.if_icmp .lt 6, 3) := by decide +kernel
theorem dX6_addOne_8 : decode cX6_addOne 8 = .ok (.ldc 73, 2) := by decide +kernel
theorem dX6_addOne_10 : decode cX6_addOne 10 = .ok (.ireturn, 1) := by decide +kernel
theorem dX6_addOne_11 : decode cX6_addOne 11 = .ok (.aload_n 0, 1) := by decide +kernel
theorem dX6_addOne_12 : decode cX6_addOne 12 = .ok (.getfield 28, 3) := by decide +kernel
theorem dX6_addOne_15 : decode cX6_addOne 15 = .ok (.aload_n 0, 1) := by decide +kernel
theorem dX6_addOne_16 : decode cX6_addOne 16 = .ok (.getfield 58, 3) := by decide +kernel
theorem dX6_addOne_19 : decode cX6_addOne 19 = .ok (.iload_n 1, 1) := by decide +kernel
theorem dX6_addOne_20 : decode cX6_addOne 20 = .ok (.iastore, 1) := by decide +kernel
theorem dX6_addOne_21 : decode cX6_addOne 21 = .ok (.aload_n 0, 1) := by decide +kernel
theorem dX6_addOne_22 : decode cX6_addOne 22 = .ok (.getfield 31, 3) := by decide +kernel
theorem dX6_addOne_25 : decode cX6_addOne 25 = .ok (.aload_n 0, 1) := by decide +kernel
theorem dX6_addOne_26 : decode cX6_addOne 26 = .ok (.getfield 58, 3) := by decide +kernel
theorem dX6_addOne_29 : decode cX6_addOne 29 = .ok (.iload_n 2, 1) := by decide +kernel
theorem dX6_addOne_30 : decode cX6_addOne 30 = .ok (.iastore, 1) := by decide +kernel
theorem dX6_addOne_31 : decode cX6_addOne 31 = .ok (.aload_n 0, 1) := by decide +kernel
theorem dX6_addOne_32 : decode cX6_addOne 32 = .ok (.dup, 1) := by decide +kernel
theorem dX6_addOne_33 : decode cX6_addOne 33 = .ok (.getfield 58, 3) := by decide +kernel
theorem dX6_addOne_36 : decode cX6_addOne 36 = .ok (.iconst 1, 1) := by decide +kernel
theorem dX6_addOne_37 : decode cX6_addOne 37 = .ok (.iadd, 1) := by decide +kernel
theorem dX6_addOne_38 : decode cX6_addOne 38 = .ok (.putfield 58, 3) := by decide +kernel
theorem dX6_addOne_41 : decode cX6_addOne 41 = .ok (.aload_n 0, 1) := by decide +kernel
theorem dX6_addOne_42 : decode cX6_addOne 42 = .ok (.getfield 58, 3) := by decide +kernel
theorem dX6_addOne_45 : decode cX6_addOne 45 = .ok (.iconst 1, 1) := by decide +kernel
theorem dX6_addOne_46 : decode cX6_addOne 46 = .ok (.isub, 1) := by decide +kernel
theorem dX6_addOne_47 : decode cX6_addOne 47 = .ok (.ireturn, 1) := by decide +kernel
theorem dX6_traitOf_0 : decode cX6_traitOf 0 = .ok (.iload_n 2, 1) := by decide +kernel
theorem dX6_traitOf_1 : decode cX6_traitOf 1 = .ok (.ifCond .ne 12, 3) := by decide +kernel
theorem dX6_traitOf_4 : decode cX6_traitOf 4 = .ok (.aload_n 0, 1) := by decide +kernel
theorem dX6_traitOf_5 : decode cX6_traitOf 5 = .ok (.getfield 28, 3) := by decide +kernel
theorem dX6_traitOf_8 : decode cX6_traitOf 8 = .ok (.iload_n 1, 1) := by decide +kernel
theorem dX6_traitOf_9 : decode cX6_traitOf 9 = .ok (.iaload, 1) := by decide +kernel
theorem dX6_traitOf_10 : decode cX6_traitOf 10 = .ok (.goto 9, 3) := by decide +kernel
theorem dX6_traitOf_13 : decode cX6_traitOf 13 = .ok (.aload_n 0, 1) := by decide +kernel
theorem dX6_traitOf_14 : decode cX6_traitOf 14 = .ok (.getfield 31, 3) := by decide +kernel
theorem dX6_traitOf_17 : decode cX6_traitOf 17 = .ok (.iload_n 1, 1) := by decide +kernel
theorem dX6_traitOf_18 : decode cX6_traitOf 18 = .ok (.iaload, 1) := by decide +kernel
theorem dX6_traitOf_19 : decode cX6_traitOf 19 = .ok (.ireturn, 1) := by decide +kernel
theorem dX6_setTrait_0 : decode cX6_setTrait 0 = .ok (.iload_n 2, 1) := by decide +kernel
theorem dX6_setTrait_1 : decode cX6_setTrait 1 = .ok (.ifCond .ne 13, 3) := by decide +kernel
theorem dX6_setTrait_4 : decode cX6_setTrait 4 = .ok (.aload_n 0, 1) := by decide +kernel
theorem dX6_setTrait_5 : decode cX6_setTrait 5 = .ok (.getfield 28, 3) := by decide +kernel
theorem dX6_setTrait_8 : decode cX6_setTrait 8 = .ok (.iload_n 1, 1) := by decide +kernel
theorem dX6_setTrait_9 : decode cX6_setTrait 9 = .ok (.iload_n 3, 1) := by decide +kernel
theorem dX6_setTrait_10 : decode cX6_setTrait 10 = .ok (.iastore, 1) := by decide +kernel
theorem dX6_setTrait_11 : decode cX6_setTrait 11 = .ok (.goto 10, 3) := by decide +kernel
theorem dX6_setTrait_14 : decode cX6_setTrait 14 = .ok (.aload_n 0, 1) := by decide +kernel
theorem dX6_setTrait_15 : decode cX6_setTrait 15 = .ok (.getfield 31, 3) := by decide +kernel
theorem dX6_setTrait_18 : decode cX6_setTrait 18 = .ok (.iload_n 1, 1) := by decide +kernel
theorem dX6_setTrait_19 : decode cX6_setTrait 19 = .ok (.iload_n 3, 1) := by decide +kernel
theorem dX6_setTrait_20 : decode cX6_setTrait 20 = .ok (.iastore, 1) := by decide +kernel
theorem dX6_setTrait_21 : decode cX6_setTrait 21 = .ok (.return_, 1) := by decide +kernel
theorem dX6_roomOf_0 : decode cX6_roomOf 0 = .ok (.aload_n 0, 1) := by decide +kernel
theorem dX6_roomOf_1 : decode cX6_roomOf 1 = .ok (.getfield 28, 3) := by decide +kernel
theorem dX6_roomOf_4 : decode cX6_roomOf 4 = .ok (.iload_n 1, 1) := by decide +kernel
theorem dX6_roomOf_5 : decode cX6_roomOf 5 = .ok (.iaload, 1) := by decide +kernel
theorem dX6_roomOf_6 : decode cX6_roomOf 6 = .ok (.bipush 8, 2) := by decide +kernel
theorem dX6_roomOf_8 : decode cX6_roomOf 8 = .ok (.irem, 1) := by decide +kernel
theorem dX6_roomOf_9 : decode cX6_roomOf 9 = .ok (.ireturn, 1) := by decide +kernel
theorem dX6_levelOf_0 : decode cX6_levelOf 0 = .ok (.aload_n 0, 1) := by decide +kernel
theorem dX6_levelOf_1 : decode cX6_levelOf 1 = .ok (.getfield 28, 3) := by decide +kernel
theorem dX6_levelOf_4 : decode cX6_levelOf 4 = .ok (.iload_n 1, 1) := by decide +kernel
theorem dX6_levelOf_5 : decode cX6_levelOf 5 = .ok (.iaload, 1) := by decide +kernel
theorem dX6_levelOf_6 : decode cX6_levelOf 6 = .ok (.bipush 8, 2) := by decide +kernel
theorem dX6_levelOf_8 : decode cX6_levelOf 8 = .ok (.idiv, 1) := by decide +kernel
theorem dX6_levelOf_9 : decode cX6_levelOf 9 = .ok (.ireturn, 1) := by decide +kernel
theorem dX6_moveTo_0 : decode cX6_moveTo 0 = .ok (.aload_n 0, 1) := by decide +kernel
theorem dX6_moveTo_1 : decode cX6_moveTo 1 = .ok (.getfield 28, 3) := by decide +kernel
theorem dX6_moveTo_4 : decode cX6_moveTo 4 = .ok (.iload_n 1, 1) := by decide +kernel
theorem dX6_moveTo_5 : decode cX6_moveTo 5 = .ok (.aload_n 0, 1) := by decide +kernel
theorem dX6_moveTo_6 : decode cX6_moveTo 6 = .ok (.iload_n 1, 1) := by decide +kernel
theorem dX6_moveTo_7 : decode cX6_moveTo 7 = .ok (.invokevirtual 84, 3) := by decide +kernel
theorem dX6_moveTo_10 : decode cX6_moveTo 10 = .ok (.bipush 8, 2) := by decide +kernel
theorem dX6_moveTo_12 : decode cX6_moveTo 12 = .ok (.imul, 1) := by decide +kernel
theorem dX6_moveTo_13 : decode cX6_moveTo 13 = .ok (.iload_n 2, 1) := by decide +kernel
theorem dX6_moveTo_14 : decode cX6_moveTo 14 = .ok (.iadd, 1) := by decide +kernel
theorem dX6_moveTo_15 : decode cX6_moveTo 15 = .ok (.iastore, 1) := by decide +kernel
theorem dX6_moveTo_16 : decode cX6_moveTo 16 = .ok (.return_, 1) := by decide +kernel
theorem dX6_placeInside_0 : decode cX6_placeInside 0 = .ok (.iload_n 1, 1) := by decide +kernel
theorem dX6_placeInside_1 : decode cX6_placeInside 1 = .ok (.bipush 8, 2) := by decide +kernel
theorem dX6_placeInside_3 : decode cX6_placeInside 3 = .ok (.irem, 1) := by decide +kernel
theorem dX6_placeInside_4 : decode cX6_placeInside 4 = .ok (.aload_n 0, 1) := by decide +kernel
theorem dX6_placeInside_5 : decode cX6_placeInside 5 = .ok (.getfield 15, 3) := by decide +kernel
theorem dX6_placeInside_8 : decode cX6_placeInside 8 = .ok (.if_icmp .ne 15, 3) := by decide +kernel
theorem dX6_placeInside_11 : decode cX6_placeInside 11 = .ok (.iload_n 1, 1) := by decide +kernel
theorem dX6_placeInside_12 : decode cX6_placeInside 12 = .ok (.bipush 8, 2) := by decide +kernel
theorem dX6_placeInside_14 : decode cX6_placeInside 14 = .ok (.idiv, 1) := by decide +kernel
theorem dX6_placeInside_15 : decode cX6_placeInside 15 = .ok (.iconst 4, 1) := by decide +kernel
theorem dX6_placeInside_16 : decode cX6_placeInside 16 = .ok (.if_icmp .ge 7, 3) := by decide +kernel
theorem dX6_placeInside_19 : decode cX6_placeInside 19 = .ok (.iconst 1, 1) := by decide +kernel
theorem dX6_placeInside_20 : decode cX6_placeInside 20 = .ok (.goto 4, 3) := by decide +kernel
theorem dX6_placeInside_23 : decode cX6_placeInside 23 = .ok (.iconst 0, 1) := by decide +kernel
theorem dX6_placeInside_24 : decode cX6_placeInside 24 = .ok (.istore_n 2, 1) := by decide +kernel
theorem dX6_placeInside_25 : decode cX6_placeInside 25 = .ok (.iload_n 2, 1) := by decide +kernel
theorem dX6_placeInside_26 : decode cX6_placeInside 26 = .ok (.ifCond .eq 20, 3) := by decide +kernel
theorem dX6_placeInside_29 : decode cX6_placeInside 29 = .ok (.iload_n 1, 1) := by decide +kernel
theorem dX6_placeInside_30 : decode cX6_placeInside 30 = .ok (.bipush 8, 2) := by decide +kernel
theorem dX6_placeInside_32 : decode cX6_placeInside 32 = .ok (.idiv, 1) := by decide +kernel
theorem dX6_placeInside_33 : decode cX6_placeInside 33 = .ok (.iconst 1, 1) := by decide +kernel
theorem dX6_placeInside_34 : decode cX6_placeInside 34 = .ok (.iadd, 1) := by decide +kernel
theorem dX6_placeInside_35 : decode cX6_placeInside 35 = .ok (.bipush 8, 2) := by decide +kernel
theorem dX6_placeInside_37 : decode cX6_placeInside 37 = .ok (.imul, 1) := by decide +kernel
theorem dX6_placeInside_38 : decode cX6_placeInside 38 = .ok (.aload_n 0, 1) := by decide +kernel
theorem dX6_placeInside_39 : decode cX6_placeInside 39 = .ok (.getfield 49, 3) := by decide +kernel
theorem dX6_placeInside_42 : decode cX6_placeInside 42 = .ok (.iadd, 1) := by decide +kernel
theorem dX6_placeInside_43 : decode cX6_placeInside 43 = .ok (.goto 4, 3) := by decide +kernel
theorem dX6_placeInside_46 : decode cX6_placeInside 46 = .ok (.iconst (-1), 1) := by decide +kernel
theorem dX6_placeInside_47 : decode cX6_placeInside 47 = .ok (.ireturn, 1) := by decide +kernel
