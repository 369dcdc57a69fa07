theorem dX6_placeOutside_0 : decode cX6_placeOutside 0 = .ok (.iload_n 1, 1) := by decide +kernel
theorem dX6_placeOutside_1 : decode cX6_placeOutside 1 = .ok (.bipush 8, 2) := by decide +kernel
theorem dX6_placeOutside_3 : decode cX6_placeOutside 3 = .ok (.irem, 1) := by decide +kernel
theorem dX6_placeOutside_4 : decode cX6_placeOutside 4 = .ok (.aload_n 0, 1) := by decide +kernel
theorem dX6_placeOutside_5 : decode cX6_placeOutside 5 = .ok (.getfield 49, 3) := by decide +kernel
theorem dX6_placeOutside_8 : decode cX6_placeOutside 8 = .ok (.if_icmp .ne 14, 3) := by decide +kernel
theorem dX6_placeOutside_11 : decode cX6_placeOutside 11 = .ok (.iload_n 1, 1) := by decide +kernel
theorem dX6_placeOutside_12 : decode cX6_placeOutside 12 = .ok (.bipush 8, 2) := by decide +kernel
theorem dX6_placeOutside_14 : decode cX6_placeOutside 14 = .ok (.idiv, 1) := by decide +kernel
theorem dX6_placeOutside_15 : decode cX6_placeOutside 15 = .ok (.ifCond .le 7, 3) := by decide +kernel
theorem dX6_placeOutside_18 : decode cX6_placeOutside 18 = .ok (.iconst 1, 1) := by decide +kernel
theorem dX6_placeOutside_19 : decode cX6_placeOutside 19 = .ok (.goto 4, 3) := by decide +kernel
theorem dX6_placeOutside_22 : decode cX6_placeOutside 22 = .ok (.iconst 0, 1) := by decide +kernel
theorem dX6_placeOutside_23 : decode cX6_placeOutside 23 = .ok (.istore_n 2, 1) := by decide +kernel
theorem dX6_placeOutside_24 : decode cX6_placeOutside 24 = .ok (.iload_n 2, 1) := by decide +kernel
theorem dX6_placeOutside_25 : decode cX6_placeOutside 25 = .ok (.ifCond .eq 20, 3) := by decide +kernel
theorem dX6_placeOutside_28 : decode cX6_placeOutside 28 = .ok (.iload_n 1, 1) := by decide +kernel
theorem dX6_placeOutside_29 : decode cX6_placeOutside 29 = .ok (.bipush 8, 2) := by decide +kernel
theorem dX6_placeOutside_31 : decode cX6_placeOutside 31 = .ok (.idiv, 1) := by decide +kernel
theorem dX6_placeOutside_32 : decode cX6_placeOutside 32 = .ok (.iconst 1, 1) := by decide +kernel
theorem dX6_placeOutside_33 : decode cX6_placeOutside 33 = .ok (.isub, 1) := by decide +kernel
theorem dX6_placeOutside_34 : decode cX6_placeOutside 34 = .ok (.bipush 8, 2) := by decide +kernel
theorem dX6_placeOutside_36 : decode cX6_placeOutside 36 = .ok (.imul, 1) := by decide +kernel
theorem dX6_placeOutside_37 : decode cX6_placeOutside 37 = .ok (.aload_n 0, 1) := by decide +kernel
theorem dX6_placeOutside_38 : decode cX6_placeOutside 38 = .ok (.getfield 15, 3) := by decide +kernel
theorem dX6_placeOutside_41 : decode cX6_placeOutside 41 = .ok (.iadd, 1) := by decide +kernel
theorem dX6_placeOutside_42 : decode cX6_placeOutside 42 = .ok (.goto 4, 3) := by decide +kernel
theorem dX6_placeOutside_45 : decode cX6_placeOutside 45 = .ok (.iconst (-1), 1) := by decide +kernel
theorem dX6_placeOutside_46 : decode cX6_placeOutside 46 = .ok (.ireturn, 1) := by decide +kernel
theorem dX6_nextPlaces_0 : decode cX6_nextPlaces 0 = .ok (.lconst 0, 1) := by decide +kernel
theorem dX6_nextPlaces_1 : decode cX6_nextPlaces 1 = .ok (.lstore_n 3, 1) := by decide +kernel
theorem dX6_nextPlaces_2 : decode cX6_nextPlaces 2 = .ok (.iconst 0, 1) := by decide +kernel
theorem dX6_nextPlaces_3 : decode cX6_nextPlaces 3 = .ok (.istore 5, 2) := by decide +kernel
theorem dX6_nextPlaces_5 : decode cX6_nextPlaces 5 = .ok (.iload 5, 2) := by decide +kernel
theorem dX6_nextPlaces_7 : decode cX6_nextPlaces 7 = .ok (.bipush 8, 2) := by decide +kernel
theorem dX6_nextPlaces_9 : decode cX6_nextPlaces 9 = .ok (.if_icmp .ge 29, 3) := by decide +kernel
theorem dX6_nextPlaces_12 : decode cX6_nextPlaces 12 = .ok (.lload_n 3, 1) := by decide +kernel
theorem dX6_nextPlaces_13 : decode cX6_nextPlaces 13 = .ok (.lload_n 1, 1) := by decide +kernel
theorem dX6_nextPlaces_14 : decode cX6_nextPlaces 14 = .ok (.iload 5, 2) := by decide +kernel
theorem dX6_nextPlaces_16 : decode cX6_nextPlaces 16 = .ok (.lushr, 1) := by decide +kernel
theorem dX6_nextPlaces_17 : decode cX6_nextPlaces 17 = .ok (.ldc2_w 88, 3) := by decide +kernel
theorem dX6_nextPlaces_20 : decode cX6_nextPlaces 20 = .ok (.land, 1) := by decide +kernel
theorem dX6_nextPlaces_21 : decode cX6_nextPlaces 21 = .ok (.aload_n 0, 1) := by decide +kernel
theorem dX6_nextPlaces_22 : decode cX6_nextPlaces 22 = .ok (.getfield 9, 3) := by decide +kernel
theorem dX6_nextPlaces_25 : decode cX6_nextPlaces 25 = .ok (.iload 5, 2) := by decide +kernel
theorem dX6_nextPlaces_27 : decode cX6_nextPlaces 27 = .ok (.iaload, 1) := by decide +kernel
theorem dX6_nextPlaces_28 : decode cX6_nextPlaces 28 = .ok (.i2l, 1) := by decide +kernel
theorem dX6_nextPlaces_29 : decode cX6_nextPlaces 29 = .ok (.lmul, 1) := by decide +kernel
theorem dX6_nextPlaces_30 : decode cX6_nextPlaces 30 = .ok (.lor, 1) := by decide +kernel
theorem dX6_nextPlaces_31 : decode cX6_nextPlaces 31 = .ok (.lstore_n 3, 1) := by decide +kernel
theorem dX6_nextPlaces_32 : decode cX6_nextPlaces 32 = .ok (.iinc 5 1, 3) := by decide +kernel
theorem dX6_nextPlaces_35 : decode cX6_nextPlaces 35 = .ok (.goto (-30), 3) := by decide +kernel
theorem dX6_nextPlaces_38 : decode cX6_nextPlaces 38 = .ok (.lload_n 3, 1) := by decide +kernel
theorem dX6_nextPlaces_39 : decode cX6_nextPlaces 39 = .ok (.lload_n 1, 1) := by decide +kernel
theorem dX6_nextPlaces_40 : decode cX6_nextPlaces 40 = .ok (.aload_n 0, 1) := by decide +kernel
theorem dX6_nextPlaces_41 : decode cX6_nextPlaces 41 = .ok (.getfield 15, 3) := by decide +kernel
theorem dX6_nextPlaces_44 : decode cX6_nextPlaces 44 = .ok (.lushr, 1) := by decide +kernel
theorem dX6_nextPlaces_45 : decode cX6_nextPlaces 45 = .ok (.ldc2_w 90, 3) := by decide +kernel
theorem dX6_nextPlaces_48 : decode cX6_nextPlaces 48 = .ok (.land, 1) := by decide +kernel
theorem dX6_nextPlaces_49 : decode cX6_nextPlaces 49 = .ok (.bipush 8, 2) := by decide +kernel
theorem dX6_nextPlaces_51 : decode cX6_nextPlaces 51 = .ok (.aload_n 0, 1) := by decide +kernel
theorem dX6_nextPlaces_52 : decode cX6_nextPlaces 52 = .ok (.getfield 49, 3) := by decide +kernel
theorem dX6_nextPlaces_55 : decode cX6_nextPlaces 55 = .ok (.iadd, 1) := by decide +kernel
theorem dX6_nextPlaces_56 : decode cX6_nextPlaces 56 = .ok (.lshl, 1) := by decide +kernel
theorem dX6_nextPlaces_57 : decode cX6_nextPlaces 57 = .ok (.lor, 1) := by decide +kernel
theorem dX6_nextPlaces_58 : decode cX6_nextPlaces 58 = .ok (.lstore_n 3, 1) := by decide +kernel
theorem dX6_nextPlaces_59 : decode cX6_nextPlaces 59 = .ok (.lload_n 3, 1) := by decide +kernel
theorem dX6_nextPlaces_60 : decode cX6_nextPlaces 60 = .ok (.lload_n 1, 1) := by decide +kernel
theorem dX6_nextPlaces_61 : decode cX6_nextPlaces 61 = .ok (.aload_n 0, 1) := by decide +kernel
theorem dX6_nextPlaces_62 : decode cX6_nextPlaces 62 = .ok (.getfield 49, 3) := by decide +kernel
theorem dX6_nextPlaces_65 : decode cX6_nextPlaces 65 = .ok (.lushr, 1) := by decide +kernel
theorem dX6_nextPlaces_66 : decode cX6_nextPlaces 66 = .ok (.ldc2_w 88, 3) := by decide +kernel
theorem dX6_nextPlaces_69 : decode cX6_nextPlaces 69 = .ok (.land, 1) := by decide +kernel
theorem dX6_nextPlaces_70 : decode cX6_nextPlaces 70 = .ok (.bipush 8, 2) := by decide +kernel
theorem dX6_nextPlaces_72 : decode cX6_nextPlaces 72 = .ok (.lushr, 1) := by decide +kernel
theorem dX6_nextPlaces_73 : decode cX6_nextPlaces 73 = .ok (.aload_n 0, 1) := by decide +kernel
theorem dX6_nextPlaces_74 : decode cX6_nextPlaces 74 = .ok (.getfield 15, 3) := by decide +kernel
theorem dX6_nextPlaces_77 : decode cX6_nextPlaces 77 = .ok (.lshl, 1) := by decide +kernel
theorem dX6_nextPlaces_78 : decode cX6_nextPlaces 78 = .ok (.lor, 1) := by decide +kernel
theorem dX6_nextPlaces_79 : decode cX6_nextPlaces 79 = .ok (.lstore_n 3, 1) := by decide +kernel
theorem dX6_nextPlaces_80 : decode cX6_nextPlaces 80 = .ok (.lload_n 3, 1) := by decide +kernel
theorem dX6_nextPlaces_81 : decode cX6_nextPlaces 81 = .ok (.lreturn, 1) := by decide +kernel
theorem dX6_lightLevels_0 : decode cX6_lightLevels 0 = .ok (.lconst 0, 1) := by decide +kernel
theorem dX6_lightLevels_1 : decode cX6_lightLevels 1 = .ok (.lstore_n 3, 1) := by decide +kernel
theorem dX6_lightLevels_2 : decode cX6_lightLevels 2 = .ok (.iconst 0, 1) := by decide +kernel
theorem dX6_lightLevels_3 : decode cX6_lightLevels 3 = .ok (.istore 5, 2) := by decide +kernel
theorem dX6_lightLevels_5 : decode cX6_lightLevels 5 = .ok (.iload 5, 2) := by decide +kernel
theorem dX6_lightLevels_7 : decode cX6_lightLevels 7 = .ok (.iconst 5, 1) := by decide +kernel
theorem dX6_lightLevels_8 : decode cX6_lightLevels 8 = .ok (.if_icmp .ge 35, 3) := by decide +kernel
theorem dX6_lightLevels_11 : decode cX6_lightLevels 11 = .ok (.aload_n 0, 1) := by decide +kernel
theorem dX6_lightLevels_12 : decode cX6_lightLevels 12 = .ok (.iload_n 2, 1) := by decide +kernel
theorem dX6_lightLevels_13 : decode cX6_lightLevels 13 = .ok (.iload 5, 2) := by decide +kernel
theorem dX6_lightLevels_15 : decode cX6_lightLevels 15 = .ok (.invokevirtual 80, 3) := by decide +kernel
theorem dX6_lightLevels_18 : decode cX6_lightLevels 18 = .ok (.aload_n 0, 1) := by decide +kernel
theorem dX6_lightLevels_19 : decode cX6_lightLevels 19 = .ok (.getfield 31, 3) := by decide +kernel
theorem dX6_lightLevels_22 : decode cX6_lightLevels 22 = .ok (.iload_n 1, 1) := by decide +kernel
theorem dX6_lightLevels_23 : decode cX6_lightLevels 23 = .ok (.iaload, 1) := by decide +kernel
theorem dX6_lightLevels_24 : decode cX6_lightLevels 24 = .ok (.if_icmp .gt 13, 3) := by decide +kernel
theorem dX6_lightLevels_27 : decode cX6_lightLevels 27 = .ok (.lload_n 3, 1) := by decide +kernel
theorem dX6_lightLevels_28 : decode cX6_lightLevels 28 = .ok (.lconst 1, 1) := by decide +kernel
theorem dX6_lightLevels_29 : decode cX6_lightLevels 29 = .ok (.iload 5, 2) := by decide +kernel
theorem dX6_lightLevels_31 : decode cX6_lightLevels 31 = .ok (.bipush 8, 2) := by decide +kernel
theorem dX6_lightLevels_33 : decode cX6_lightLevels 33 = .ok (.imul, 1) := by decide +kernel
theorem dX6_lightLevels_34 : decode cX6_lightLevels 34 = .ok (.lshl, 1) := by decide +kernel
theorem dX6_lightLevels_35 : decode cX6_lightLevels 35 = .ok (.lor, 1) := by decide +kernel
theorem dX6_lightLevels_36 : decode cX6_lightLevels 36 = .ok (.lstore_n 3, 1) := by decide +kernel
theorem dX6_lightLevels_37 : decode cX6_lightLevels 37 = .ok (.iinc 5 1, 3) := by decide +kernel
theorem dX6_lightLevels_40 : decode cX6_lightLevels 40 = .ok (.goto (-35), 3) := by decide +kernel
theorem dX6_lightLevels_43 : decode cX6_lightLevels 43 = .ok (.lload_n 3, 1) := by decide +kernel
theorem dX6_lightLevels_44 : decode cX6_lightLevels 44 = .ok (.lreturn, 1) := by decide +kernel
theorem dX6_canCarry_0 : decode cX6_canCarry 0 = .ok (.aload_n 0, 1) := by decide +kernel
theorem dX6_canCarry_1 : decode cX6_canCarry 1 = .ok (.getfield 22, 3) := by decide +kernel
theorem dX6_canCarry_4 : decode cX6_canCarry 4 = .ok (.iload_n 2, 1) := by decide +kernel
theorem dX6_canCarry_5 : decode cX6_canCarry 5 = .ok (.iaload, 1) := by decide +kernel
theorem dX6_canCarry_6 : decode cX6_canCarry 6 = .ok (.aload_n 0, 1) := by decide +kernel
theorem dX6_canCarry_7 : decode cX6_canCarry 7 = .ok (.iload_n 1, 1) := by decide +kernel
theorem dX6_canCarry_8 : decode cX6_canCarry 8 = .ok (.invokevirtual 92, 3) := by decide +kernel
theorem dX6_canCarry_11 : decode cX6_canCarry 11 = .ok (.if_icmp .ne 26, 3) := by decide +kernel
theorem dX6_canCarry_14 : decode cX6_canCarry 14 = .ok (.aload_n 0, 1) := by decide +kernel
theorem dX6_canCarry_15 : decode cX6_canCarry 15 = .ok (.iload_n 2, 1) := by decide +kernel
theorem dX6_canCarry_16 : decode cX6_canCarry 16 = .ok (.aload_n 0, 1) := by decide +kernel
theorem dX6_canCarry_17 : decode cX6_canCarry 17 = .ok (.iload_n 1, 1) := by decide +kernel
theorem dX6_canCarry_18 : decode cX6_canCarry 18 = .ok (.invokevirtual 84, 3) := by decide +kernel
theorem dX6_canCarry_21 : decode cX6_canCarry 21 = .ok (.invokevirtual 80, 3) := by decide +kernel
theorem dX6_canCarry_24 : decode cX6_canCarry 24 = .ok (.aload_n 0, 1) := by decide +kernel
theorem dX6_canCarry_25 : decode cX6_canCarry 25 = .ok (.getfield 31, 3) := by decide +kernel
theorem dX6_canCarry_28 : decode cX6_canCarry 28 = .ok (.iload_n 1, 1) := by decide +kernel
theorem dX6_canCarry_29 : decode cX6_canCarry 29 = .ok (.iaload, 1) := by decide +kernel
theorem dX6_canCarry_30 : decode cX6_canCarry 30 = .ok (.if_icmp .gt 7, 3) := by decide +kernel
theorem dX6_canCarry_33 : decode cX6_canCarry 33 = .ok (.iconst 1, 1) := by decide +kernel
theorem dX6_canCarry_34 : decode cX6_canCarry 34 = .ok (.goto 4, 3) := by decide +kernel
theorem dX6_canCarry_37 : decode cX6_canCarry 37 = .ok (.iconst 0, 1) := by decide +kernel
theorem dX6_canCarry_38 : decode cX6_canCarry 38 = .ok (.ireturn, 1) := by decide +kernel
theorem dX6_canReach_0 : decode cX6_canReach 0 = .ok (.aload_n 0, 1) := by decide +kernel
theorem dX6_canReach_1 : decode cX6_canReach 1 = .ok (.iload_n 1, 1) := by decide +kernel
theorem dX6_canReach_2 : decode cX6_canReach 2 = .ok (.invokevirtual 84, 3) := by decide +kernel
theorem dX6_canReach_5 : decode cX6_canReach 5 = .ok (.istore_n 3, 1) := by decide +kernel
theorem dX6_canReach_6 : decode cX6_canReach 6 = .ok (.aload_n 0, 1) := by decide +kernel
theorem dX6_canReach_7 : decode cX6_canReach 7 = .ok (.iload_n 1, 1) := by decide +kernel
theorem dX6_canReach_8 : decode cX6_canReach 8 = .ok (.invokevirtual 92, 3) := by decide +kernel
theorem dX6_canReach_11 : decode cX6_canReach 11 = .ok (.aload_n 0, 1) := by decide +kernel
theorem dX6_canReach_12 : decode cX6_canReach 12 = .ok (.getfield 15, 3) := by decide +kernel
theorem dX6_canReach_15 : decode cX6_canReach 15 = .ok (.if_icmp .ne 29, 3) := by decide +kernel
theorem dX6_canReach_18 : decode cX6_canReach 18 = .ok (.iload_n 3, 1) := by decide +kernel
theorem dX6_canReach_19 : decode cX6_canReach 19 = .ok (.iconst 4, 1) := by decide +kernel
theorem dX6_canReach_20 : decode cX6_canReach 20 = .ok (.if_icmp .ge 24, 3) := by decide +kernel
theorem dX6_canReach_23 : decode cX6_canReach 23 = .ok (.aload_n 0, 1) := by decide +kernel
theorem dX6_canReach_24 : decode cX6_canReach 24 = .ok (.iload_n 2, 1) := by decide +kernel
theorem dX6_canReach_25 : decode cX6_canReach 25 = .ok (.iload_n 3, 1) := by decide +kernel
theorem dX6_canReach_26 : decode cX6_canReach 26 = .ok (.iconst 1, 1) := by decide +kernel
theorem dX6_canReach_27 : decode cX6_canReach 27 = .ok (.iadd, 1) := by decide +kernel
theorem dX6_canReach_28 : decode cX6_canReach 28 = .ok (.invokevirtual 80, 3) := by decide +kernel
theorem dX6_canReach_31 : decode cX6_canReach 31 = .ok (.aload_n 0, 1) := by decide +kernel
theorem dX6_canReach_32 : decode cX6_canReach 32 = .ok (.getfield 31, 3) := by decide +kernel
theorem dX6_canReach_35 : decode cX6_canReach 35 = .ok (.iload_n 1, 1) := by decide +kernel
theorem dX6_canReach_36 : decode cX6_canReach 36 = .ok (.iaload, 1) := by decide +kernel
theorem dX6_canReach_37 : decode cX6_canReach 37 = .ok (.if_icmp .gt 7, 3) := by decide +kernel
theorem dX6_canReach_40 : decode cX6_canReach 40 = .ok (.iconst 1, 1) := by decide +kernel
theorem dX6_canReach_41 : decode cX6_canReach 41 = .ok (.goto 4, 3) := by decide +kernel
theorem dX6_canReach_44 : decode cX6_canReach 44 = .ok (.iconst 0, 1) := by decide +kernel
theorem dX6_canReach_45 : decode cX6_canReach 45 = .ok (.ireturn, 1) := by decide +kernel
theorem dX6_canLift_0 : decode cX6_canLift 0 = .ok (.aload_n 0, 1) := by decide +kernel
theorem dX6_canLift_1 : decode cX6_canLift 1 = .ok (.iload_n 1, 1) := by decide +kernel
theorem dX6_canLift_2 : decode cX6_canLift 2 = .ok (.invokevirtual 92, 3) := by decide +kernel
theorem dX6_canLift_5 : decode cX6_canLift 5 = .ok (.aload_n 0, 1) := by decide +kernel
theorem dX6_canLift_6 : decode cX6_canLift 6 = .ok (.getfield 15, 3) := by decide +kernel
theorem dX6_canLift_9 : decode cX6_canLift 9 = .ok (.if_icmp .ne 22, 3) := by decide +kernel
theorem dX6_canLift_12 : decode cX6_canLift 12 = .ok (.aload_n 0, 1) := by decide +kernel
theorem dX6_canLift_13 : decode cX6_canLift 13 = .ok (.iload_n 2, 1) := by decide +kernel
theorem dX6_canLift_14 : decode cX6_canLift 14 = .ok (.invokevirtual 84, 3) := by decide +kernel
theorem dX6_canLift_17 : decode cX6_canLift 17 = .ok (.aload_n 0, 1) := by decide +kernel
theorem dX6_canLift_18 : decode cX6_canLift 18 = .ok (.iload_n 1, 1) := by decide +kernel
theorem dX6_canLift_19 : decode cX6_canLift 19 = .ok (.invokevirtual 84, 3) := by decide +kernel
theorem dX6_canLift_22 : decode cX6_canLift 22 = .ok (.iconst 1, 1) := by decide +kernel
theorem dX6_canLift_23 : decode cX6_canLift 23 = .ok (.iadd, 1) := by decide +kernel
theorem dX6_canLift_24 : decode cX6_canLift 24 = .ok (.if_icmp .ne 7, 3) := by decide +kernel
theorem dX6_canLift_27 : decode cX6_canLift 27 = .ok (.iconst 1, 1) := by decide +kernel
theorem dX6_canLift_28 : decode cX6_canLift 28 = .ok (.goto 4, 3) := by decide +kernel
theorem dX6_canLift_31 : decode cX6_canLift 31 = .ok (.iconst 0, 1) := by decide +kernel
theorem dX6_canLift_32 : decode cX6_canLift 32 = .ok (.ireturn, 1) := by decide +kernel
theorem dX6_carryOver_0 : decode cX6_carryOver 0 = .ok (.aload_n 0, 1) := by decide +kernel
theorem dX6_carryOver_1 : decode cX6_carryOver 1 = .ok (.getfield 22, 3) := by decide +kernel
theorem dX6_carryOver_4 : decode cX6_carryOver 4 = .ok (.iload_n 2, 1) := by decide +kernel
theorem dX6_carryOver_5 : decode cX6_carryOver 5 = .ok (.iaload, 1) := by decide +kernel
theorem dX6_carryOver_6 : decode cX6_carryOver 6 = .ok (.istore 4, 2) := by decide +kernel
theorem dX6_carryOver_8 : decode cX6_carryOver 8 = .ok (.aload_n 0, 1) := by decide +kernel
theorem dX6_carryOver_9 : decode cX6_carryOver 9 = .ok (.iload_n 1, 1) := by decide +kernel
theorem dX6_carryOver_10 : decode cX6_carryOver 10 = .ok (.iload_n 3, 1) := by decide +kernel
theorem dX6_carryOver_11 : decode cX6_carryOver 11 = .ok (.invokevirtual 95, 3) := by decide +kernel
theorem dX6_carryOver_14 : decode cX6_carryOver 14 = .ok (.aload_n 0, 1) := by decide +kernel
theorem dX6_carryOver_15 : decode cX6_carryOver 15 = .ok (.getfield 22, 3) := by decide +kernel
theorem dX6_carryOver_18 : decode cX6_carryOver 18 = .ok (.iload_n 2, 1) := by decide +kernel
theorem dX6_carryOver_19 : decode cX6_carryOver 19 = .ok (.iload_n 3, 1) := by decide +kernel
theorem dX6_carryOver_20 : decode cX6_carryOver 20 = .ok (.iastore, 1) := by decide +kernel
theorem dX6_carryOver_21 : decode cX6_carryOver 21 = .ok (.aload_n 0, 1) := by decide +kernel
theorem dX6_carryOver_22 : decode cX6_carryOver 22 = .ok (.iload_n 3, 1) := by decide +kernel
theorem dX6_carryOver_23 : decode cX6_carryOver 23 = .ok (.invokevirtual 99, 3) := by decide +kernel
theorem dX6_carryOver_26 : decode cX6_carryOver 26 = .ok (.iconst 1, 1) := by decide +kernel
theorem dX6_carryOver_27 : decode cX6_carryOver 27 = .ok (.isub, 1) := by decide +kernel
theorem dX6_carryOver_28 : decode cX6_carryOver 28 = .ok (.istore 5, 2) := by decide +kernel
theorem dX6_carryOver_30 : decode cX6_carryOver 30 = .ok (.aload_n 0, 1) := by decide +kernel
theorem dX6_carryOver_31 : decode cX6_carryOver 31 = .ok (.iload_n 1, 1) := by decide +kernel
theorem dX6_carryOver_32 : decode cX6_carryOver 32 = .ok (.iload_n 2, 1) := by decide +kernel
theorem dX6_carryOver_33 : decode cX6_carryOver 33 = .ok (.iload 4, 2) := by decide +kernel
theorem dX6_carryOver_35 : decode cX6_carryOver 35 = .ok (.iload_n 3, 1) := by decide +kernel
theorem dX6_carryOver_36 : decode cX6_carryOver 36 = .ok (.iload 5, 2) := by decide +kernel
theorem dX6_carryOver_38 : decode cX6_carryOver 38 = .ok (.invokevirtual 102, 3) := by decide +kernel
theorem dX6_carryOver_41 : decode cX6_carryOver 41 = .ok (.iload 5, 2) := by decide +kernel
theorem dX6_carryOver_43 : decode cX6_carryOver 43 = .ok (.ireturn, 1) := by decide +kernel
theorem dX6_reachOver_0 : decode cX6_reachOver 0 = .ok (.aload_n 0, 1) := by decide +kernel
theorem dX6_reachOver_1 : decode cX6_reachOver 1 = .ok (.getfield 22, 3) := by decide +kernel
theorem dX6_reachOver_4 : decode cX6_reachOver 4 = .ok (.iload_n 2, 1) := by decide +kernel
theorem dX6_reachOver_5 : decode cX6_reachOver 5 = .ok (.iaload, 1) := by decide +kernel
theorem dX6_reachOver_6 : decode cX6_reachOver 6 = .ok (.istore 4, 2) := by decide +kernel
theorem dX6_reachOver_8 : decode cX6_reachOver 8 = .ok (.aload_n 0, 1) := by decide +kernel
theorem dX6_reachOver_9 : decode cX6_reachOver 9 = .ok (.getfield 22, 3) := by decide +kernel
theorem dX6_reachOver_12 : decode cX6_reachOver 12 = .ok (.iload_n 2, 1) := by decide +kernel
theorem dX6_reachOver_13 : decode cX6_reachOver 13 = .ok (.iload_n 3, 1) := by decide +kernel
theorem dX6_reachOver_14 : decode cX6_reachOver 14 = .ok (.iastore, 1) := by decide +kernel
theorem dX6_reachOver_15 : decode cX6_reachOver 15 = .ok (.aload_n 0, 1) := by decide +kernel
theorem dX6_reachOver_16 : decode cX6_reachOver 16 = .ok (.iload_n 3, 1) := by decide +kernel
theorem dX6_reachOver_17 : decode cX6_reachOver 17 = .ok (.invokevirtual 99, 3) := by decide +kernel
theorem dX6_reachOver_20 : decode cX6_reachOver 20 = .ok (.istore 5, 2) := by decide +kernel
theorem dX6_reachOver_22 : decode cX6_reachOver 22 = .ok (.aload_n 0, 1) := by decide +kernel
theorem dX6_reachOver_23 : decode cX6_reachOver 23 = .ok (.iload_n 1, 1) := by decide +kernel
theorem dX6_reachOver_24 : decode cX6_reachOver 24 = .ok (.iload_n 2, 1) := by decide +kernel
theorem dX6_reachOver_25 : decode cX6_reachOver 25 = .ok (.iload 4, 2) := by decide +kernel
theorem dX6_reachOver_27 : decode cX6_reachOver 27 = .ok (.iload_n 3, 1) := by decide +kernel
theorem dX6_reachOver_28 : decode cX6_reachOver 28 = .ok (.iload 5, 2) := by decide +kernel
theorem dX6_reachOver_30 : decode cX6_reachOver 30 = .ok (.invokevirtual 102, 3) := by decide +kernel
theorem dX6_reachOver_33 : decode cX6_reachOver 33 = .ok (.iload 5, 2) := by decide +kernel
theorem dX6_reachOver_35 : decode cX6_reachOver 35 = .ok (.ireturn, 1) := by decide +kernel
theorem dX6_standingIn_0 : decode cX6_standingIn 0 = .ok (.iconst 0, 1) := by decide +kernel
theorem dX6_standingIn_1 : decode cX6_standingIn 1 = .ok (.istore_n 2, 1) := by decide +kernel
theorem dX6_standingIn_2 : decode cX6_standingIn 2 = .ok (.iconst 0, 1) := by decide +kernel
theorem dX6_standingIn_3 : decode cX6_standingIn 3 = .ok (.istore_n 3, 1) := by decide +kernel
theorem dX6_standingIn_4 : decode cX6_standingIn 4 = .ok (.iload_n 3, 1) := by decide +kernel
theorem dX6_standingIn_5 : decode cX6_standingIn 5 = .ok (.aload_n 0, 1) := by decide +kernel
theorem dX6_standingIn_6 : decode cX6_standingIn 6 = .ok (.getfield 58, 3) := by decide +kernel
theorem dX6_standingIn_9 : decode cX6_standingIn 9 = .ok (.if_icmp .ge 21, 3) := by decide +kernel
theorem dX6_standingIn_12 : decode cX6_standingIn 12 = .ok (.aload_n 0, 1) := by decide +kernel
theorem dX6_standingIn_13 : decode cX6_standingIn 13 = .ok (.iload_n 3, 1) := by decide +kernel
theorem dX6_standingIn_14 : decode cX6_standingIn 14 = .ok (.invokevirtual 92, 3) := by decide +kernel
theorem dX6_standingIn_17 : decode cX6_standingIn 17 = .ok (.iload_n 1, 1) := by decide +kernel
theorem dX6_standingIn_18 : decode cX6_standingIn 18 = .ok (.if_icmp .ne 6, 3) := by decide +kernel
theorem dX6_standingIn_21 : decode cX6_standingIn 21 = .ok (.iinc 2 1, 3) := by decide +kernel
theorem dX6_standingIn_24 : decode cX6_standingIn 24 = .ok (.iinc 3 1, 3) := by decide +kernel
theorem dX6_standingIn_27 : decode cX6_standingIn 27 = .ok (.goto (-23), 3) := by decide +kernel
theorem dX6_standingIn_30 : decode cX6_standingIn 30 = .ok (.iload_n 2, 1) := by decide +kernel
theorem dX6_standingIn_31 : decode cX6_standingIn 31 = .ok (.ireturn, 1) := by decide +kernel
theorem dX6_enter_0 : decode cX6_enter 0 = .ok (.aload_n 0, 1) := by decide +kernel
theorem dX6_enter_1 : decode cX6_enter 1 = .ok (.getfield 34, 3) := by decide +kernel
theorem dX6_enter_4 : decode cX6_enter 4 = .ok (.iconst 0, 1) := by decide +kernel
theorem dX6_enter_5 : decode cX6_enter 5 = .ok (.aload_n 0, 1) := by decide +kernel
theorem dX6_enter_6 : decode cX6_enter 6 = .ok (.getfield 34, 3) := by decide +kernel
theorem dX6_enter_9 : decode cX6_enter 9 = .ok (.iconst 5, 1) := by decide +kernel
theorem dX6_enter_10 : decode cX6_enter 10 = .ok (.bipush 55, 2) := by decide +kernel
theorem dX6_enter_12 : decode cX6_enter 12 = .ok (.invokestatic 43, 3) := by decide +kernel
theorem dX6_enter_15 : decode cX6_enter 15 = .ok (.aload_n 0, 1) := by decide +kernel
theorem dX6_enter_16 : decode cX6_enter 16 = .ok (.getfield 34, 3) := by decide +kernel
theorem dX6_enter_19 : decode cX6_enter 19 = .ok (.iconst 0, 1) := by decide +kernel
theorem dX6_enter_20 : decode cX6_enter 20 = .ok (.iload_n 1, 1) := by decide +kernel
theorem dX6_enter_21 : decode cX6_enter 21 = .ok (.iastore, 1) := by decide +kernel
theorem dX6_enter_22 : decode cX6_enter 22 = .ok (.aload_n 0, 1) := by decide +kernel
theorem dX6_enter_23 : decode cX6_enter 23 = .ok (.getfield 34, 3) := by decide +kernel
theorem dX6_enter_26 : decode cX6_enter 26 = .ok (.iconst 1, 1) := by decide +kernel
theorem dX6_enter_27 : decode cX6_enter 27 = .ok (.iload_n 2, 1) := by decide +kernel
theorem dX6_enter_28 : decode cX6_enter 28 = .ok (.iastore, 1) := by decide +kernel
theorem dX6_enter_29 : decode cX6_enter 29 = .ok (.aload_n 0, 1) := by decide +kernel
theorem dX6_enter_30 : decode cX6_enter 30 = .ok (.getfield 34, 3) := by decide +kernel
theorem dX6_enter_33 : decode cX6_enter 33 = .ok (.iconst 2, 1) := by decide +kernel
theorem dX6_enter_34 : decode cX6_enter 34 = .ok (.iload_n 3, 1) := by decide +kernel
theorem dX6_enter_35 : decode cX6_enter 35 = .ok (.iastore, 1) := by decide +kernel
theorem dX6_enter_36 : decode cX6_enter 36 = .ok (.aload_n 0, 1) := by decide +kernel
theorem dX6_enter_37 : decode cX6_enter 37 = .ok (.getfield 34, 3) := by decide +kernel
theorem dX6_enter_40 : decode cX6_enter 40 = .ok (.iconst 3, 1) := by decide +kernel
theorem dX6_enter_41 : decode cX6_enter 41 = .ok (.iload 4, 2) := by decide +kernel
theorem dX6_enter_43 : decode cX6_enter 43 = .ok (.iastore, 1) := by decide +kernel
theorem dX6_enter_44 : decode cX6_enter 44 = .ok (.aload_n 0, 1) := by decide +kernel
theorem dX6_enter_45 : decode cX6_enter 45 = .ok (.getfield 34, 3) := by decide +kernel
theorem dX6_enter_48 : decode cX6_enter 48 = .ok (.iconst 4, 1) := by decide +kernel
theorem dX6_enter_49 : decode cX6_enter 49 = .ok (.iload 5, 2) := by decide +kernel
theorem dX6_enter_51 : decode cX6_enter 51 = .ok (.iastore, 1) := by decide +kernel
theorem dX6_enter_52 : decode cX6_enter 52 = .ok (.aload_n 0, 1) := by decide +kernel
theorem dX6_enter_53 : decode cX6_enter 53 = .ok (.getfield 67, 3) := by decide +kernel
theorem dX6_enter_56 : decode cX6_enter 56 = .ok (.bipush 12, 2) := by decide +kernel
theorem dX6_enter_58 : decode cX6_enter 58 = .ok (.if_icmp .ge 13, 3) := by decide +kernel
theorem dX6_enter_61 : decode cX6_enter 61 = .ok (.aload_n 0, 1) := by decide +kernel
theorem dX6_enter_62 : decode cX6_enter 62 = .ok (.dup, 1) := by decide +kernel
theorem dX6_enter_63 : decode cX6_enter 63 = .ok (.getfield 67, 3) := by decide +kernel
theorem dX6_enter_66 : decode cX6_enter 66 = .ok (.iconst 1, 1) := by decide +kernel
theorem dX6_enter_67 : decode cX6_enter 67 = .ok (.iadd, 1) := by decide +kernel
theorem dX6_enter_68 : decode cX6_enter 68 = .ok (.putfield 67, 3) := by decide +kernel
theorem dX6_enter_71 : decode cX6_enter 71 = .ok (.aload_n 0, 1) := by decide +kernel
theorem dX6_enter_72 : decode cX6_enter 72 = .ok (.dup, 1) := by decide +kernel
theorem dX6_enter_73 : decode cX6_enter 73 = .ok (.getfield 61, 3) := by decide +kernel
theorem dX6_enter_76 : decode cX6_enter 76 = .ok (.iconst 1, 1) := by decide +kernel
theorem dX6_enter_77 : decode cX6_enter 77 = .ok (.iadd, 1) := by decide +kernel
theorem dX6_enter_78 : decode cX6_enter 78 = .ok (.putfield 61, 3) := by decide +kernel
theorem dX6_enter_81 : decode cX6_enter 81 = .ok (.aload_n 0, 1) := by decide +kernel
theorem dX6_enter_82 : decode cX6_enter 82 = .ok (.dup, 1) := by decide +kernel
theorem dX6_enter_83 : decode cX6_enter 83 = .ok (.getfield 64, 3) := by decide +kernel
theorem dX6_enter_86 : decode cX6_enter 86 = .ok (.iload 5, 2) := by decide +kernel
theorem dX6_enter_88 : decode cX6_enter 88 = .ok (.iadd, 1) := by decide +kernel
theorem dX6_enter_89 : decode cX6_enter 89 = .ok (.putfield 64, 3) := by decide +kernel
theorem dX6_enter_92 : decode cX6_enter 92 = .ok (.return_, 1) := by decide +kernel
theorem dX6_roomsHitBy_0 : decode cX6_roomsHitBy 0 = .ok (.iconst 0, 1) := by decide +kernel
theorem dX6_roomsHitBy_1 : decode cX6_roomsHitBy 1 = .ok (.istore_n 3, 1) := by decide +kernel
theorem dX6_roomsHitBy_2 : decode cX6_roomsHitBy 2 = .ok (.aload_n 0, 1) := by decide +kernel
theorem dX6_roomsHitBy_3 : decode cX6_roomsHitBy 3 = .ok (.iload_n 1, 1) := by decide +kernel
theorem dX6_roomsHitBy_4 : decode cX6_roomsHitBy 4 = .ok (.iload_n 2, 1) := by decide +kernel
theorem dX6_roomsHitBy_5 : decode cX6_roomsHitBy 5 = .ok (.invokevirtual 106, 3) := by decide +kernel
theorem dX6_roomsHitBy_8 : decode cX6_roomsHitBy 8 = .ok (.ifCond .eq 16, 3) := by decide +kernel
theorem dX6_roomsHitBy_11 : decode cX6_roomsHitBy 11 = .ok (.iload_n 3, 1) := by decide +kernel
theorem dX6_roomsHitBy_12 : decode cX6_roomsHitBy 12 = .ok (.aload_n 0, 1) := by decide +kernel
theorem dX6_roomsHitBy_13 : decode cX6_roomsHitBy 13 = .ok (.getfield 9, 3) := by decide +kernel
theorem dX6_roomsHitBy_16 : decode cX6_roomsHitBy 16 = .ok (.aload_n 0, 1) := by decide +kernel
theorem dX6_roomsHitBy_17 : decode cX6_roomsHitBy 17 = .ok (.iload_n 1, 1) := by decide +kernel
theorem dX6_roomsHitBy_18 : decode cX6_roomsHitBy 18 = .ok (.invokevirtual 92, 3) := by decide +kernel
theorem dX6_roomsHitBy_21 : decode cX6_roomsHitBy 21 = .ok (.iaload, 1) := by decide +kernel
theorem dX6_roomsHitBy_22 : decode cX6_roomsHitBy 22 = .ok (.ior, 1) := by decide +kernel
theorem dX6_roomsHitBy_23 : decode cX6_roomsHitBy 23 = .ok (.istore_n 3, 1) := by decide +kernel
theorem dX6_roomsHitBy_24 : decode cX6_roomsHitBy 24 = .ok (.aload_n 0, 1) := by decide +kernel
theorem dX6_roomsHitBy_25 : decode cX6_roomsHitBy 25 = .ok (.iload_n 1, 1) := by decide +kernel
theorem dX6_roomsHitBy_26 : decode cX6_roomsHitBy 26 = .ok (.iload_n 2, 1) := by decide +kernel
theorem dX6_roomsHitBy_27 : decode cX6_roomsHitBy 27 = .ok (.invokevirtual 110, 3) := by decide +kernel
theorem dX6_roomsHitBy_30 : decode cX6_roomsHitBy 30 = .ok (.ifCond .eq 16, 3) := by decide +kernel
theorem dX6_roomsHitBy_33 : decode cX6_roomsHitBy 33 = .ok (.iload_n 3, 1) := by decide +kernel
theorem dX6_roomsHitBy_34 : decode cX6_roomsHitBy 34 = .ok (.iconst 1, 1) := by decide +kernel
theorem dX6_roomsHitBy_35 : decode cX6_roomsHitBy 35 = .ok (.aload_n 0, 1) := by decide +kernel
theorem dX6_roomsHitBy_36 : decode cX6_roomsHitBy 36 = .ok (.getfield 22, 3) := by decide +kernel
theorem dX6_roomsHitBy_39 : decode cX6_roomsHitBy 39 = .ok (.iload_n 2, 1) := by decide +kernel
theorem dX6_roomsHitBy_40 : decode cX6_roomsHitBy 40 = .ok (.iaload, 1) := by decide +kernel
theorem dX6_roomsHitBy_41 : decode cX6_roomsHitBy 41 = .ok (.ishl, 1) := by decide +kernel
theorem dX6_roomsHitBy_42 : decode cX6_roomsHitBy 42 = .ok (.iconst (-1), 1) := by decide +kernel
theorem dX6_roomsHitBy_43 : decode cX6_roomsHitBy 43 = .ok (.ixor, 1) := by decide +kernel
theorem dX6_roomsHitBy_44 : decode cX6_roomsHitBy 44 = .ok (.ior, 1) := by decide +kernel
theorem dX6_roomsHitBy_45 : decode cX6_roomsHitBy 45 = .ok (.istore_n 3, 1) := by decide +kernel
theorem dX6_roomsHitBy_46 : decode cX6_roomsHitBy 46 = .ok (.iload_n 3, 1) := by decide +kernel
theorem dX6_roomsHitBy_47 : decode cX6_roomsHitBy 47 = .ok (.ireturn, 1) := by decide +kernel
theorem dX6_passDays_0 : decode cX6_passDays 0 = .ok (.aload_n 0, 1) := by decide +kernel
theorem dX6_passDays_1 : decode cX6_passDays 1 = .ok (.getfield 64, 3) := by decide +kernel
theorem dX6_passDays_4 : decode cX6_passDays 4 = .ok (.istore_n 2, 1) := by decide +kernel
theorem dX6_passDays_5 : decode cX6_passDays 5 = .ok (.iconst 0, 1) := by decide +kernel
theorem dX6_passDays_6 : decode cX6_passDays 6 = .ok (.istore_n 3, 1) := by decide +kernel
theorem dX6_passDays_7 : decode cX6_passDays 7 = .ok (.iload_n 3, 1) := by decide +kernel
theorem dX6_passDays_8 : decode cX6_passDays 8 = .ok (.iload_n 1, 1) := by decide +kernel
theorem dX6_passDays_9 : decode cX6_passDays 9 = .ok (.if_icmp .ge 43, 3) := by decide +kernel
theorem dX6_passDays_12 : decode cX6_passDays 12 = .ok (.iconst 0, 1) := by decide +kernel
theorem dX6_passDays_13 : decode cX6_passDays 13 = .ok (.istore 4, 2) := by decide +kernel
theorem dX6_passDays_15 : decode cX6_passDays 15 = .ok (.iload 4, 2) := by decide +kernel
theorem dX6_passDays_17 : decode cX6_passDays 17 = .ok (.aload_n 0, 1) := by decide +kernel
theorem dX6_passDays_18 : decode cX6_passDays 18 = .ok (.getfield 58, 3) := by decide +kernel
theorem dX6_passDays_21 : decode cX6_passDays 21 = .ok (.if_icmp .ge 15, 3) := by decide +kernel
theorem dX6_passDays_24 : decode cX6_passDays 24 = .ok (.aload_n 0, 1) := by decide +kernel
theorem dX6_passDays_25 : decode cX6_passDays 25 = .ok (.iload 4, 2) := by decide +kernel
theorem dX6_passDays_27 : decode cX6_passDays 27 = .ok (.invokevirtual 113, 3) := by decide +kernel
theorem dX6_passDays_30 : decode cX6_passDays 30 = .ok (.iinc 4 1, 3) := by decide +kernel
theorem dX6_passDays_33 : decode cX6_passDays 33 = .ok (.goto (-18), 3) := by decide +kernel
theorem dX6_passDays_36 : decode cX6_passDays 36 = .ok (.aload_n 0, 1) := by decide +kernel
theorem dX6_passDays_37 : decode cX6_passDays 37 = .ok (.dup, 1) := by decide +kernel
theorem dX6_passDays_38 : decode cX6_passDays 38 = .ok (.getfield 70, 3) := by decide +kernel
theorem dX6_passDays_41 : decode cX6_passDays 41 = .ok (.iconst 1, 1) := by decide +kernel
theorem dX6_passDays_42 : decode cX6_passDays 42 = .ok (.iadd, 1) := by decide +kernel
theorem dX6_passDays_43 : decode cX6_passDays 43 = .ok (.putfield 70, 3) := by decide +kernel
theorem dX6_passDays_46 : decode cX6_passDays 46 = .ok (.iinc 3 1, 3) := by decide +kernel
theorem dX6_passDays_49 : decode cX6_passDays 49 = .ok (.goto (-42), 3) := by decide +kernel
theorem dX6_passDays_52 : decode cX6_passDays 52 = .ok (.aload_n 0, 1) := by decide +kernel
theorem dX6_passDays_53 : decode cX6_passDays 53 = .ok (.getfield 64, 3) := by decide +kernel
theorem dX6_passDays_56 : decode cX6_passDays 56 = .ok (.iload_n 2, 1) := by decide +kernel
theorem dX6_passDays_57 : decode cX6_passDays 57 = .ok (.isub, 1) := by decide +kernel
theorem dX6_passDays_58 : decode cX6_passDays 58 = .ok (.ireturn, 1) := by decide +kernel
theorem dX6_actByDraws_0 : decode cX6_actByDraws 0 = .ok (.aload_n 0, 1) := by decide +kernel
theorem dX6_actByDraws_1 : decode cX6_actByDraws 1 = .ok (.invokevirtual 117, 3) := by decide +kernel
theorem dX6_actByDraws_4 : decode cX6_actByDraws 4 = .ok (.bipush 8, 2) := by decide +kernel
theorem dX6_actByDraws_6 : decode cX6_actByDraws 6 = .ok (.irem, 1) := by decide +kernel
theorem dX6_actByDraws_7 : decode cX6_actByDraws 7 = .ok (.istore_n 2, 1) := by decide +kernel
theorem dX6_actByDraws_8 : decode cX6_actByDraws 8 = .ok (.aload_n 0, 1) := by decide +kernel
theorem dX6_actByDraws_9 : decode cX6_actByDraws 9 = .ok (.aload_n 0, 1) := by decide +kernel
theorem dX6_actByDraws_10 : decode cX6_actByDraws 10 = .ok (.iload_n 1, 1) := by decide +kernel
theorem dX6_actByDraws_11 : decode cX6_actByDraws 11 = .ok (.invokevirtual 92, 3) := by decide +kernel
theorem dX6_actByDraws_14 : decode cX6_actByDraws 14 = .ok (.iload_n 2, 1) := by decide +kernel
theorem dX6_actByDraws_15 : decode cX6_actByDraws 15 = .ok (.invokevirtual 121, 3) := by decide +kernel
theorem dX6_actByDraws_18 : decode cX6_actByDraws 18 = .ok (.ifCond .eq 9, 3) := by decide +kernel
theorem dX6_actByDraws_21 : decode cX6_actByDraws 21 = .ok (.aload_n 0, 1) := by decide +kernel
theorem dX6_actByDraws_22 : decode cX6_actByDraws 22 = .ok (.iload_n 1, 1) := by decide +kernel
theorem dX6_actByDraws_23 : decode cX6_actByDraws 23 = .ok (.iload_n 2, 1) := by decide +kernel
theorem dX6_actByDraws_24 : decode cX6_actByDraws 24 = .ok (.invokevirtual 95, 3) := by decide +kernel
theorem dX6_actByDraws_27 : decode cX6_actByDraws 27 = .ok (.aload_n 0, 1) := by decide +kernel
theorem dX6_actByDraws_28 : decode cX6_actByDraws 28 = .ok (.getfield 55, 3) := by decide +kernel
theorem dX6_actByDraws_31 : decode cX6_actByDraws 31 = .ok (.ifCond .le 24, 3) := by decide +kernel
theorem dX6_actByDraws_34 : decode cX6_actByDraws 34 = .ok (.aload_n 0, 1) := by decide +kernel
theorem dX6_actByDraws_35 : decode cX6_actByDraws 35 = .ok (.iload_n 1, 1) := by decide +kernel
theorem dX6_actByDraws_36 : decode cX6_actByDraws 36 = .ok (.invokevirtual 92, 3) := by decide +kernel
theorem dX6_actByDraws_39 : decode cX6_actByDraws 39 = .ok (.aload_n 0, 1) := by decide +kernel
theorem dX6_actByDraws_40 : decode cX6_actByDraws 40 = .ok (.getfield 15, 3) := by decide +kernel
theorem dX6_actByDraws_43 : decode cX6_actByDraws 43 = .ok (.if_icmp .ne 12, 3) := by decide +kernel
theorem dX6_actByDraws_46 : decode cX6_actByDraws 46 = .ok (.aload_n 0, 1) := by decide +kernel
theorem dX6_actByDraws_47 : decode cX6_actByDraws 47 = .ok (.iload_n 1, 1) := by decide +kernel
theorem dX6_actByDraws_48 : decode cX6_actByDraws 48 = .ok (.invokevirtual 84, 3) := by decide +kernel
theorem dX6_actByDraws_51 : decode cX6_actByDraws 51 = .ok (.iconst 4, 1) := by decide +kernel
theorem dX6_actByDraws_52 : decode cX6_actByDraws 52 = .ok (.if_icmp .lt 4, 3) := by decide +kernel
theorem dX6_actByDraws_55 : decode cX6_actByDraws 55 = .ok (.return_, 1) := by decide +kernel
theorem dX6_actByDraws_56 : decode cX6_actByDraws 56 = .ok (.aload_n 0, 1) := by decide +kernel
theorem dX6_actByDraws_57 : decode cX6_actByDraws 57 = .ok (.invokevirtual 117, 3) := by decide +kernel
theorem dX6_actByDraws_60 : decode cX6_actByDraws 60 = .ok (.aload_n 0, 1) := by decide +kernel
theorem dX6_actByDraws_61 : decode cX6_actByDraws 61 = .ok (.getfield 55, 3) := by decide +kernel
theorem dX6_actByDraws_64 : decode cX6_actByDraws 64 = .ok (.irem, 1) := by decide +kernel
theorem dX6_actByDraws_65 : decode cX6_actByDraws 65 = .ok (.istore_n 3, 1) := by decide +kernel
theorem dX6_actByDraws_66 : decode cX6_actByDraws 66 = .ok (.aload_n 0, 1) := by decide +kernel
theorem dX6_actByDraws_67 : decode cX6_actByDraws 67 = .ok (.invokevirtual 117, 3) := by decide +kernel
theorem dX6_actByDraws_70 : decode cX6_actByDraws 70 = .ok (.bipush 8, 2) := by decide +kernel
theorem dX6_actByDraws_72 : decode cX6_actByDraws 72 = .ok (.irem, 1) := by decide +kernel
theorem dX6_actByDraws_73 : decode cX6_actByDraws 73 = .ok (.istore 4, 2) := by decide +kernel
theorem dX6_actByDraws_75 : decode cX6_actByDraws 75 = .ok (.aload_n 0, 1) := by decide +kernel
theorem dX6_actByDraws_76 : decode cX6_actByDraws 76 = .ok (.invokevirtual 117, 3) := by decide +kernel
theorem dX6_actByDraws_79 : decode cX6_actByDraws 79 = .ok (.bipush 100, 2) := by decide +kernel
theorem dX6_actByDraws_81 : decode cX6_actByDraws 81 = .ok (.irem, 1) := by decide +kernel
theorem dX6_actByDraws_82 : decode cX6_actByDraws 82 = .ok (.aload_n 0, 1) := by decide +kernel
theorem dX6_actByDraws_83 : decode cX6_actByDraws 83 = .ok (.getfield 52, 3) := by decide +kernel
theorem dX6_actByDraws_86 : decode cX6_actByDraws 86 = .ok (.if_icmp .ge 12, 3) := by decide +kernel
theorem dX6_actByDraws_89 : decode cX6_actByDraws 89 = .ok (.iload 4, 2) := by decide +kernel
theorem dX6_actByDraws_91 : decode cX6_actByDraws 91 = .ok (.iconst 1, 1) := by decide +kernel
theorem dX6_actByDraws_92 : decode cX6_actByDraws 92 = .ok (.iadd, 1) := by decide +kernel
theorem dX6_actByDraws_93 : decode cX6_actByDraws 93 = .ok (.bipush 8, 2) := by decide +kernel
theorem dX6_actByDraws_95 : decode cX6_actByDraws 95 = .ok (.irem, 1) := by decide +kernel
theorem dX6_actByDraws_96 : decode cX6_actByDraws 96 = .ok (.istore 4, 2) := by decide +kernel
theorem dX6_actByDraws_98 : decode cX6_actByDraws 98 = .ok (.aload_n 0, 1) := by decide +kernel
theorem dX6_actByDraws_99 : decode cX6_actByDraws 99 = .ok (.iload_n 1, 1) := by decide +kernel
theorem dX6_actByDraws_100 : decode cX6_actByDraws 100 = .ok (.iload_n 3, 1) := by decide +kernel
theorem dX6_actByDraws_101 : decode cX6_actByDraws 101 = .ok (.invokevirtual 110, 3) := by decide +kernel
theorem dX6_actByDraws_104 : decode cX6_actByDraws 104 = .ok (.ifCond .eq 23, 3) := by decide +kernel
theorem dX6_actByDraws_107 : decode cX6_actByDraws 107 = .ok (.aload_n 0, 1) := by decide +kernel
theorem dX6_actByDraws_108 : decode cX6_actByDraws 108 = .ok (.getfield 22, 3) := by decide +kernel
theorem dX6_actByDraws_111 : decode cX6_actByDraws 111 = .ok (.iload_n 3, 1) := by decide +kernel
theorem dX6_actByDraws_112 : decode cX6_actByDraws 112 = .ok (.iaload, 1) := by decide +kernel
theorem dX6_actByDraws_113 : decode cX6_actByDraws 113 = .ok (.iload 4, 2) := by decide +kernel
theorem dX6_actByDraws_115 : decode cX6_actByDraws 115 = .ok (.if_icmp .eq 12, 3) := by decide +kernel
theorem dX6_actByDraws_118 : decode cX6_actByDraws 118 = .ok (.aload_n 0, 1) := by decide +kernel
theorem dX6_actByDraws_119 : decode cX6_actByDraws 119 = .ok (.iload_n 1, 1) := by decide +kernel
theorem dX6_actByDraws_120 : decode cX6_actByDraws 120 = .ok (.iload_n 3, 1) := by decide +kernel
theorem dX6_actByDraws_121 : decode cX6_actByDraws 121 = .ok (.iload 4, 2) := by decide +kernel
theorem dX6_actByDraws_123 : decode cX6_actByDraws 123 = .ok (.invokevirtual 124, 3) := by decide +kernel
theorem dX6_actByDraws_126 : decode cX6_actByDraws 126 = .ok (.pop, 1) := by decide +kernel
theorem dX6_actByDraws_127 : decode cX6_actByDraws 127 = .ok (.return_, 1) := by decide +kernel
theorem dX6_draw_0 : decode cX6_draw 0 = .ok (.aload_n 0, 1) := by decide +kernel
theorem dX6_draw_1 : decode cX6_draw 1 = .ok (.aload_n 0, 1) := by decide +kernel
theorem dX6_draw_2 : decode cX6_draw 2 = .ok (.getfield 37, 3) := by decide +kernel
theorem dX6_draw_5 : decode cX6_draw 5 = .ok (.ldc 127, 2) := by decide +kernel
theorem dX6_draw_7 : decode cX6_draw 7 = .ok (.imul, 1) := by decide +kernel
theorem dX6_draw_8 : decode cX6_draw 8 = .ok (.sipush 12345, 3) := by decide +kernel
theorem dX6_draw_11 : decode cX6_draw 11 = .ok (.iadd, 1) := by decide +kernel
theorem dX6_draw_12 : decode cX6_draw 12 = .ok (.putfield 37, 3) := by decide +kernel
theorem dX6_draw_15 : decode cX6_draw 15 = .ok (.aload_n 0, 1) := by decide +kernel
theorem dX6_draw_16 : decode cX6_draw 16 = .ok (.getfield 37, 3) := by decide +kernel
theorem dX6_draw_19 : decode cX6_draw 19 = .ok (.bipush 8, 2) := by decide +kernel
theorem dX6_draw_21 : decode cX6_draw 21 = .ok (.iushr, 1) := by decide +kernel
theorem dX6_draw_22 : decode cX6_draw 22 = .ok (.ireturn, 1) := by decide +kernel
theorem dX6_fullSpots_0 : decode cX6_fullSpots 0 = .ok (.iconst 0, 1) := by decide +kernel
theorem dX6_fullSpots_1 : decode cX6_fullSpots 1 = .ok (.istore_n 1, 1) := by decide +kernel
theorem dX6_fullSpots_2 : decode cX6_fullSpots 2 = .ok (.iconst 0, 1) := by decide +kernel
theorem dX6_fullSpots_3 : decode cX6_fullSpots 3 = .ok (.istore_n 2, 1) := by decide +kernel
theorem dX6_fullSpots_4 : decode cX6_fullSpots 4 = .ok (.iload_n 2, 1) := by decide +kernel
theorem dX6_fullSpots_5 : decode cX6_fullSpots 5 = .ok (.bipush 10, 2) := by decide +kernel
theorem dX6_fullSpots_7 : decode cX6_fullSpots 7 = .ok (.if_icmp .ge 22, 3) := by decide +kernel
theorem dX6_fullSpots_10 : decode cX6_fullSpots 10 = .ok (.aload_n 0, 1) := by decide +kernel
theorem dX6_fullSpots_11 : decode cX6_fullSpots 11 = .ok (.getfield 40, 3) := by decide +kernel
theorem dX6_fullSpots_14 : decode cX6_fullSpots 14 = .ok (.iload_n 2, 1) := by decide +kernel
theorem dX6_fullSpots_15 : decode cX6_fullSpots 15 = .ok (.iaload, 1) := by decide +kernel
theorem dX6_fullSpots_16 : decode cX6_fullSpots 16 = .ok (.iconst (-1), 1) := by decide +kernel
theorem dX6_fullSpots_17 : decode cX6_fullSpots 17 = .ok (.if_icmp .eq 6, 3) := by decide +kernel
theorem dX6_fullSpots_20 : decode cX6_fullSpots 20 = .ok (.iinc 1 1, 3) := by decide +kernel
theorem dX6_fullSpots_23 : decode cX6_fullSpots 23 = .ok (.iinc 2 1, 3) := by decide +kernel
theorem dX6_fullSpots_26 : decode cX6_fullSpots 26 = .ok (.goto (-22), 3) := by decide +kernel
theorem dX6_fullSpots_29 : decode cX6_fullSpots 29 = .ok (.iload_n 1, 1) := by decide +kernel
theorem dX6_fullSpots_30 : decode cX6_fullSpots 30 = .ok (.ireturn, 1) := by decide +kernel
theorem dX7_init_0 : decode cX7_init 0 = .ok (.aload_n 0, 1) := by decide +kernel
theorem dX7_init_1 : decode cX7_init 1 = .ok (.invokespecial 3, 3) := by decide +kernel
theorem dX7_init_4 : decode cX7_init 4 = .ok (.aload_n 0, 1) := by decide +kernel
theorem dX7_init_5 : decode cX7_init 5 = .ok (.new 9, 3) := by decide +kernel
theorem dX7_init_8 : decode cX7_init 8 = .ok (.dup, 1) := by decide +kernel
theorem dX7_init_9 : decode cX7_init 9 = .ok (.invokespecial 11, 3) := by decide +kernel
theorem dX7_init_12 : decode cX7_init 12 = .ok (.putfield 12, 3) := by decide +kernel
theorem dX7_init_15 : decode cX7_init 15 = .ok (.aload_n 0, 1) := by decide +kernel
theorem dX7_init_16 : decode cX7_init 16 = .ok (.new 9, 3) := by decide +kernel
theorem dX7_init_19 : decode cX7_init 19 = .ok (.dup, 1) := by decide +kernel
theorem dX7_init_20 : decode cX7_init 20 = .ok (.invokespecial 11, 3) := by decide +kernel
theorem dX7_init_23 : decode cX7_init 23 = .ok (.putfield 16, 3) := by decide +kernel
theorem dX7_init_26 : decode cX7_init 26 = .ok (.aload_n 0, 1) := by decide +kernel
theorem dX7_init_27 : decode cX7_init 27 = .ok (.new 9, 3) := by decide +kernel
theorem dX7_init_30 : decode cX7_init 30 = .ok (.dup, 1) := by decide +kernel
theorem dX7_init_31 : decode cX7_init 31 = .ok (.invokespecial 11, 3) := by decide +kernel
theorem dX7_init_34 : decode cX7_init 34 = .ok (.putfield 19, 3) := by decide +kernel
theorem dX7_init_37 : decode cX7_init 37 = .ok (.aload_n 0, 1) := by decide +kernel
theorem dX7_init_38 : decode cX7_init 38 = .ok (.new 22, 3) := by decide +kernel
theorem dX7_init_41 : decode cX7_init 41 = .ok (.dup, 1) := by decide +kernel
theorem dX7_init_42 : decode cX7_init 42 = .ok (.invokespecial 24, 3) := by decide +kernel
theorem dX7_init_45 : decode cX7_init 45 = .ok (.putfield 25, 3) := by decide +kernel
theorem dX7_init_48 : decode cX7_init 48 = .ok (.aload_n 0, 1) := by decide +kernel
theorem dX7_init_49 : decode cX7_init 49 = .ok (.new 29, 3) := by decide +kernel
theorem dX7_init_52 : decode cX7_init 52 = .ok (.dup, 1) := by decide +kernel
theorem dX7_init_53 : decode cX7_init 53 = .ok (.invokespecial 31, 3) := by decide +kernel
theorem dX7_init_56 : decode cX7_init 56 = .ok (.putfield 32, 3) := by decide +kernel
theorem dX7_init_59 : decode cX7_init 59 = .ok (.aload_n 0, 1) := by decide +kernel
theorem dX7_init_60 : decode cX7_init 60 = .ok (.iconst 4, 1) := by decide +kernel
theorem dX7_init_61 : decode cX7_init 61 = .ok (.anewarray 36, 3) := by decide +kernel
theorem dX7_init_64 : decode cX7_init 64 = .ok (.putfield 38, 3) := by decide +kernel
theorem dX7_init_67 : decode cX7_init 67 = .ok (.aload_n 0, 1) := by decide +kernel
theorem dX7_init_68 : decode cX7_init 68 = .ok (.bipush 7, 2) := by decide +kernel
theorem dX7_init_70 : decode cX7_init 70 = .ok (.newarray .int, 2) := by decide +kernel
theorem dX7_init_72 : decode cX7_init 72 = .ok (.putfield 42, 3) := by decide +kernel
theorem dX7_init_75 : decode cX7_init 75 = .ok (.iconst 0, 1) := by decide +kernel
theorem dX7_init_76 : decode cX7_init 76 = .ok (.istore_n 1, 1) := by decide +kernel
theorem dX7_init_77 : decode cX7_init 77 = .ok (.iload_n 1, 1) := by decide +kernel
theorem dX7_init_78 : decode cX7_init 78 = .ok (.iconst 4, 1) := by decide +kernel
theorem dX7_init_79 : decode cX7_init 79 = .ok (.if_icmp .ge 22, 3) := by decide +kernel
theorem dX7_init_82 : decode cX7_init 82 = .ok (.aload_n 0, 1) := by decide +kernel
theorem dX7_init_83 : decode cX7_init 83 = .ok (.getfield 38, 3) := by decide +kernel
theorem dX7_init_86 : decode cX7_init 86 = .ok (.iload_n 1, 1) := by decide +kernel
theorem dX7_init_87 : decode cX7_init 87 = .ok (.new 36, 3) := by decide +kernel
theorem dX7_init_90 : decode cX7_init 90 = .ok (.dup, 1) := by decide +kernel
theorem dX7_init_91 : decode cX7_init 91 = .ok (.invokespecial 46, 3) := by decide +kernel
theorem dX7_init_94 : decode cX7_init 94 = .ok (.aastore, 1) := by decide +kernel
theorem dX7_init_95 : decode cX7_init 95 = .ok (.iinc 1 1, 3) := by decide +kernel
theorem dX7_init_98 : decode cX7_init 98 = .ok (.goto (-21), 3) := by decide +kernel
theorem dX7_init_101 : decode cX7_init 101 = .ok (.return_, 1) := by decide +kernel
theorem dX7_door_0 : decode cX7_door 0 = .ok (.iload_n 1, 1) := by decide +kernel
theorem dX7_door_1 : decode cX7_door 1 = .ok (.invokestatic 47, 3) := by decide +kernel
theorem dX7_door_4 : decode cX7_door 4 = .ok (.ifCond .eq 24, 3) := by decide +kernel
theorem dX7_door_7 : decode cX7_door 7 = .ok (.iload_n 2, 1) := by decide +kernel
theorem dX7_door_8 : decode cX7_door 8 = .ok (.invokestatic 47, 3) := by decide +kernel
theorem dX7_door_11 : decode cX7_door 11 = .ok (.ifCond .eq 17, 3) := by decide +kernel
theorem dX7_door_14 : decode cX7_door 14 = .ok (.iload_n 1, 1) := by decide +kernel
theorem dX7_door_15 : decode cX7_door 15 = .ok (.iload_n 2, 1) := by decide +kernel
theorem dX7_door_16 : decode cX7_door 16 = .ok (.if_icmp .eq 12, 3) := by decide +kernel
theorem dX7_door_19 : decode cX7_door 19 = .ok (.iload_n 3, 1) := by decide +kernel
theorem dX7_door_20 : decode cX7_door 20 = .ok (.iconst 0, 1) := by decide +kernel
theorem dX7_door_21 : decode cX7_door 21 = .ok (.iconst 1, 1) := by decide +kernel
theorem dX7_door_22 : decode cX7_door 22 = .ok (.invokestatic 51, 3) := by decide +kernel
theorem dX7_door_25 : decode cX7_door 25 = .ok (.ifCond .ne 10, 3) := by decide +kernel
theorem dX7_door_28 : decode cX7_door 28 = .ok (.aload_n 0, 1) := by decide +kernel
theorem dX7_door_29 : decode cX7_door 29 = .ok (.ldc 55, 2) := by decide +kernel
theorem dX7_door_31 : decode cX7_door 31 = .ok (.invokevirtual 56, 3) := by decide +kernel
theorem dX7_door_34 : decode cX7_door 34 = .ok (.ireturn, 1) := by decide +kernel
theorem dX7_door_35 : decode cX7_door 35 = .ok (.aload_n 0, 1) := by decide +kernel
theorem dX7_door_36 : decode cX7_door 36 = .ok (.getfield 12, 3) := by decide +kernel
theorem dX7_door_39 : decode cX7_door 39 = .ok (.iload_n 1, 1) := by decide +kernel
theorem dX7_door_40 : decode cX7_door 40 = .ok (.iload_n 2, 1) := by decide +kernel
theorem dX7_door_41 : decode cX7_door 41 = .ok (.invokevirtual 60, 3) := by decide +kernel
theorem dX7_door_44 : decode cX7_door 44 = .ok (.ifCond .eq 7, 3) := by decide +kernel
theorem dX7_door_47 : decode cX7_door 47 = .ok (.iconst 1, 1) := by decide +kernel
theorem dX7_door_48 : decode cX7_door 48 = .ok (.goto 4, 3) := by decide +kernel
theorem dX7_door_51 : decode cX7_door 51 = .ok (.iconst 0, 1) := by decide +kernel
theorem dX7_door_52 : decode cX7_door 52 = .ok (.istore 4, 2) := by decide +kernel
theorem dX7_door_54 : decode cX7_door 54 = .ok (.aload_n 0, 1) := by decide +kernel
theorem dX7_door_55 : decode cX7_door 55 = .ok (.getfield 12, 3) := by decide +kernel
theorem dX7_door_58 : decode cX7_door 58 = .ok (.iload_n 1, 1) := by decide +kernel
theorem dX7_door_59 : decode cX7_door 59 = .ok (.iload_n 2, 1) := by decide +kernel
theorem dX7_door_60 : decode cX7_door 60 = .ok (.iload_n 3, 1) := by decide +kernel
theorem dX7_door_61 : decode cX7_door 61 = .ok (.iconst 1, 1) := by decide +kernel
theorem dX7_door_62 : decode cX7_door 62 = .ok (.if_icmp .ne 7, 3) := by decide +kernel
theorem dX7_door_65 : decode cX7_door 65 = .ok (.iconst 1, 1) := by decide +kernel
theorem dX7_door_66 : decode cX7_door 66 = .ok (.goto 4, 3) := by decide +kernel
theorem dX7_door_69 : decode cX7_door 69 = .ok (.iconst 0, 1) := by decide +kernel
theorem dX7_door_70 : decode cX7_door 70 = .ok (.invokevirtual 64, 3) := by decide +kernel
theorem dX7_door_73 : decode cX7_door 73 = .ok (.iload 4, 2) := by decide +kernel
theorem dX7_door_75 : decode cX7_door 75 = .ok (.ireturn, 1) := by decide +kernel
theorem dX7_rule_0 : decode cX7_rule 0 = .ok (.iload_n 1, 1) := by decide +kernel
theorem dX7_rule_1 : decode cX7_rule 1 = .ok (.iconst 0, 1) := by decide +kernel
theorem dX7_rule_2 : decode cX7_rule 2 = .ok (.iconst 2, 1) := by decide +kernel
theorem dX7_rule_3 : decode cX7_rule 3 = .ok (.invokestatic 51, 3) := by decide +kernel
theorem dX7_rule_6 : decode cX7_rule 6 = .ok (.ifCond .eq 23, 3) := by decide +kernel
theorem dX7_rule_9 : decode cX7_rule 9 = .ok (.iload_n 2, 1) := by decide +kernel
theorem dX7_rule_10 : decode cX7_rule 10 = .ok (.iconst 0, 1) := by decide +kernel
theorem dX7_rule_11 : decode cX7_rule 11 = .ok (.iload_n 1, 1) := by decide +kernel
theorem dX7_rule_12 : decode cX7_rule 12 = .ok (.iconst 2, 1) := by decide +kernel
theorem dX7_rule_13 : decode cX7_rule 13 = .ok (.if_icmp .ne 8, 3) := by decide +kernel
theorem dX7_rule_16 : decode cX7_rule 16 = .ok (.bipush 100, 2) := by decide +kernel
theorem dX7_rule_18 : decode cX7_rule 18 = .ok (.goto 5, 3) := by decide +kernel
theorem dX7_rule_21 : decode cX7_rule 21 = .ok (.bipush 7, 2) := by decide +kernel
theorem dX7_rule_23 : decode cX7_rule 23 = .ok (.invokestatic 51, 3) := by decide +kernel
theorem dX7_rule_26 : decode cX7_rule 26 = .ok (.ifCond .ne 10, 3) := by decide +kernel
theorem dX7_rule_29 : decode cX7_rule 29 = .ok (.aload_n 0, 1) := by decide +kernel
theorem dX7_rule_30 : decode cX7_rule 30 = .ok (.ldc 55, 2) := by decide +kernel
theorem dX7_rule_32 : decode cX7_rule 32 = .ok (.invokevirtual 56, 3) := by decide +kernel
theorem dX7_rule_35 : decode cX7_rule 35 = .ok (.ireturn, 1) := by decide +kernel
theorem dX7_rule_36 : decode cX7_rule 36 = .ok (.aload_n 0, 1) := by decide +kernel
theorem dX7_rule_37 : decode cX7_rule 37 = .ok (.getfield 12, 3) := by decide +kernel
theorem dX7_rule_40 : decode cX7_rule 40 = .ok (.iload_n 1, 1) := by decide +kernel
theorem dX7_rule_41 : decode cX7_rule 41 = .ok (.iload_n 2, 1) := by decide +kernel
theorem dX7_rule_42 : decode cX7_rule 42 = .ok (.invokevirtual 68, 3) := by decide +kernel
theorem dX7_rule_45 : decode cX7_rule 45 = .ok (.ireturn, 1) := by decide +kernel
theorem dX7_thing_0 : decode cX7_thing 0 = .ok (.iload_n 1, 1) := by decide +kernel
theorem dX7_thing_1 : decode cX7_thing 1 = .ok (.invokestatic 72, 3) := by decide +kernel
theorem dX7_thing_4 : decode cX7_thing 4 = .ok (.ifCond .eq 10, 3) := by decide +kernel
theorem dX7_thing_7 : decode cX7_thing 7 = .ok (.iload_n 2, 1) := by decide +kernel
theorem dX7_thing_8 : decode cX7_thing 8 = .ok (.invokestatic 47, 3) := by decide +kernel
theorem dX7_thing_11 : decode cX7_thing 11 = .ok (.ifCond .ne 10, 3) := by decide +kernel
theorem dX7_thing_14 : decode cX7_thing 14 = .ok (.aload_n 0, 1) := by decide +kernel
theorem dX7_thing_15 : decode cX7_thing 15 = .ok (.ldc 55, 2) := by decide +kernel
theorem dX7_thing_17 : decode cX7_thing 17 = .ok (.invokevirtual 56, 3) := by decide +kernel
theorem dX7_thing_20 : decode cX7_thing 20 = .ok (.ireturn, 1) := by decide +kernel
theorem dX7_thing_21 : decode cX7_thing 21 = .ok (.aload_n 0, 1) := by decide +kernel
theorem dX7_thing_22 : decode cX7_thing 22 = .ok (.getfield 12, 3) := by decide +kernel
theorem dX7_thing_25 : decode cX7_thing 25 = .ok (.getfield 75, 3) := by decide +kernel
theorem dX7_thing_28 : decode cX7_thing 28 = .ok (.bipush 8, 2) := by decide +kernel
theorem dX7_thing_30 : decode cX7_thing 30 = .ok (.if_icmp .lt 10, 3) := by decide +kernel
theorem dX7_thing_33 : decode cX7_thing 33 = .ok (.aload_n 0, 1) := by decide +kernel
theorem dX7_thing_34 : decode cX7_thing 34 = .ok (.ldc 79, 2) := by decide +kernel
theorem dX7_thing_36 : decode cX7_thing 36 = .ok (.invokevirtual 56, 3) := by decide +kernel
theorem dX7_thing_39 : decode cX7_thing 39 = .ok (.ireturn, 1) := by decide +kernel
theorem dX7_thing_40 : decode cX7_thing 40 = .ok (.aload_n 0, 1) := by decide +kernel
theorem dX7_thing_41 : decode cX7_thing 41 = .ok (.getfield 12, 3) := by decide +kernel
theorem dX7_thing_44 : decode cX7_thing 44 = .ok (.iload_n 1, 1) := by decide +kernel
theorem dX7_thing_45 : decode cX7_thing 45 = .ok (.iload_n 2, 1) := by decide +kernel
theorem dX7_thing_46 : decode cX7_thing 46 = .ok (.bipush 8, 2) := by decide +kernel
theorem dX7_thing_48 : decode cX7_thing 48 = .ok (.invokevirtual 80, 3) := by decide +kernel
theorem dX7_thing_51 : decode cX7_thing 51 = .ok (.ireturn, 1) := by decide +kernel
theorem dX7_of_0 : decode cX7_of 0 = .ok (.aload_n 0, 1) := by decide +kernel
theorem dX7_of_1 : decode cX7_of 1 = .ok (.iload_n 1, 1) := by decide +kernel
theorem dX7_of_2 : decode cX7_of 2 = .ok (.invokevirtual 84, 3) := by decide +kernel
theorem dX7_of_5 : decode cX7_of 5 = .ok (.ifCond .eq 13, 3) := by decide +kernel
theorem dX7_of_8 : decode cX7_of 8 = .ok (.iload_n 2, 1) := by decide +kernel
theorem dX7_of_9 : decode cX7_of 9 = .ok (.iconst 0, 1) := by decide +kernel
theorem dX7_of_10 : decode cX7_of 10 = .ok (.bipush 7, 2) := by decide +kernel
theorem dX7_of_12 : decode cX7_of 12 = .ok (.invokestatic 51, 3) := by decide +kernel
theorem dX7_of_15 : decode cX7_of 15 = .ok (.ifCond .ne 10, 3) := by decide +kernel
theorem dX7_of_18 : decode cX7_of 18 = .ok (.aload_n 0, 1) := by decide +kernel
theorem dX7_of_19 : decode cX7_of 19 = .ok (.ldc 55, 2) := by decide +kernel
theorem dX7_of_21 : decode cX7_of 21 = .ok (.invokevirtual 56, 3) := by decide +kernel
theorem dX7_of_24 : decode cX7_of 24 = .ok (.ireturn, 1) := by decide +kernel
theorem dX7_of_25 : decode cX7_of 25 = .ok (.iload_n 2, 1) := by decide +kernel
theorem dX7_of_26 : decode cX7_of 26 = .ok (.iconst 3, 1) := by decide +kernel
theorem dX7_of_27 : decode cX7_of 27 = .ok (.if_icmp .ge 15, 3) := by decide +kernel
theorem dX7_of_30 : decode cX7_of 30 = .ok (.aload_n 0, 1) := by decide +kernel
theorem dX7_of_31 : decode cX7_of 31 = .ok (.getfield 12, 3) := by decide +kernel
theorem dX7_of_34 : decode cX7_of 34 = .ok (.iload_n 1, 1) := by decide +kernel
theorem dX7_of_35 : decode cX7_of 35 = .ok (.iload_n 2, 1) := by decide +kernel
theorem dX7_of_36 : decode cX7_of 36 = .ok (.invokevirtual 87, 3) := by decide +kernel
theorem dX7_of_39 : decode cX7_of 39 = .ok (.goto 14, 3) := by decide +kernel
theorem dX7_of_42 : decode cX7_of 42 = .ok (.aload_n 0, 1) := by decide +kernel
theorem dX7_of_43 : decode cX7_of 43 = .ok (.getfield 12, 3) := by decide +kernel
theorem dX7_of_46 : decode cX7_of 46 = .ok (.iload_n 1, 1) := by decide +kernel
theorem dX7_of_47 : decode cX7_of 47 = .ok (.iload_n 2, 1) := by decide +kernel
theorem dX7_of_48 : decode cX7_of 48 = .ok (.iconst 3, 1) := by decide +kernel
theorem dX7_of_49 : decode cX7_of 49 = .ok (.isub, 1) := by decide +kernel
theorem dX7_of_50 : decode cX7_of 50 = .ok (.invokevirtual 90, 3) := by decide +kernel
theorem dX7_of_53 : decode cX7_of 53 = .ok (.ireturn, 1) := by decide +kernel
theorem dX7_change_0 : decode cX7_change 0 = .ok (.aload_n 0, 1) := by decide +kernel
theorem dX7_change_1 : decode cX7_change 1 = .ok (.iload_n 1, 1) := by decide +kernel
theorem dX7_change_2 : decode cX7_change 2 = .ok (.invokevirtual 84, 3) := by decide +kernel
theorem dX7_change_5 : decode cX7_change 5 = .ok (.ifCond .eq 20, 3) := by decide +kernel
theorem dX7_change_8 : decode cX7_change 8 = .ok (.iload_n 2, 1) := by decide +kernel
theorem dX7_change_9 : decode cX7_change 9 = .ok (.iconst 0, 1) := by decide +kernel
theorem dX7_change_10 : decode cX7_change 10 = .ok (.iconst 2, 1) := by decide +kernel
theorem dX7_change_11 : decode cX7_change 11 = .ok (.invokestatic 51, 3) := by decide +kernel
theorem dX7_change_14 : decode cX7_change 14 = .ok (.ifCond .eq 11, 3) := by decide +kernel
theorem dX7_change_17 : decode cX7_change 17 = .ok (.iload_n 2, 1) := by decide +kernel
theorem dX7_change_18 : decode cX7_change 18 = .ok (.iload_n 3, 1) := by decide +kernel
theorem dX7_change_19 : decode cX7_change 19 = .ok (.invokestatic 93, 3) := by decide +kernel
theorem dX7_change_22 : decode cX7_change 22 = .ok (.ifCond .ne 10, 3) := by decide +kernel
theorem dX7_change_25 : decode cX7_change 25 = .ok (.aload_n 0, 1) := by decide +kernel
theorem dX7_change_26 : decode cX7_change 26 = .ok (.ldc 55, 2) := by decide +kernel
theorem dX7_change_28 : decode cX7_change 28 = .ok (.invokevirtual 56, 3) := by decide +kernel
theorem dX7_change_31 : decode cX7_change 31 = .ok (.ireturn, 1) := by decide +kernel
theorem dX7_change_32 : decode cX7_change 32 = .ok (.aload_n 0, 1) := by decide +kernel
theorem dX7_change_33 : decode cX7_change 33 = .ok (.getfield 12, 3) := by decide +kernel
theorem dX7_change_36 : decode cX7_change 36 = .ok (.iload_n 1, 1) := by decide +kernel
theorem dX7_change_37 : decode cX7_change 37 = .ok (.iload_n 2, 1) := by decide +kernel
theorem dX7_change_38 : decode cX7_change 38 = .ok (.invokevirtual 87, 3) := by decide +kernel
theorem dX7_change_41 : decode cX7_change 41 = .ok (.istore 4, 2) := by decide +kernel
theorem dX7_change_43 : decode cX7_change 43 = .ok (.aload_n 0, 1) := by decide +kernel
theorem dX7_change_44 : decode cX7_change 44 = .ok (.getfield 12, 3) := by decide +kernel
theorem dX7_change_47 : decode cX7_change 47 = .ok (.iload_n 1, 1) := by decide +kernel
theorem dX7_change_48 : decode cX7_change 48 = .ok (.iload_n 2, 1) := by decide +kernel
theorem dX7_change_49 : decode cX7_change 49 = .ok (.iload_n 3, 1) := by decide +kernel
theorem dX7_change_50 : decode cX7_change 50 = .ok (.invokevirtual 96, 3) := by decide +kernel
theorem dX7_change_53 : decode cX7_change 53 = .ok (.iload 4, 2) := by decide +kernel
theorem dX7_change_55 : decode cX7_change 55 = .ok (.ireturn, 1) := by decide +kernel
theorem dX7_one_0 : decode cX7_one 0 = .ok (.iload_n 1, 1) := by decide +kernel
theorem dX7_one_1 : decode cX7_one 1 = .ok (.invokestatic 100, 3) := by decide +kernel
theorem dX7_one_4 : decode cX7_one 4 = .ok (.ifCond .ne 10, 3) := by decide +kernel
theorem dX7_one_7 : decode cX7_one 7 = .ok (.aload_n 0, 1) := by decide +kernel
theorem dX7_one_8 : decode cX7_one 8 = .ok (.ldc 55, 2) := by decide +kernel
theorem dX7_one_10 : decode cX7_one 10 = .ok (.invokevirtual 56, 3) := by decide +kernel
theorem dX7_one_13 : decode cX7_one 13 = .ok (.ireturn, 1) := by decide +kernel
theorem dX7_one_14 : decode cX7_one 14 = .ok (.aload_n 0, 1) := by decide +kernel
theorem dX7_one_15 : decode cX7_one 15 = .ok (.getfield 12, 3) := by decide +kernel
theorem dX7_one_18 : decode cX7_one 18 = .ok (.getfield 103, 3) := by decide +kernel
theorem dX7_one_21 : decode cX7_one 21 = .ok (.iconst 4, 1) := by decide +kernel
theorem dX7_one_22 : decode cX7_one 22 = .ok (.if_icmp .lt 10, 3) := by decide +kernel
theorem dX7_one_25 : decode cX7_one 25 = .ok (.aload_n 0, 1) := by decide +kernel
theorem dX7_one_26 : decode cX7_one 26 = .ok (.ldc 79, 2) := by decide +kernel
theorem dX7_one_28 : decode cX7_one 28 = .ok (.invokevirtual 56, 3) := by decide +kernel
theorem dX7_one_31 : decode cX7_one 31 = .ok (.ireturn, 1) := by decide +kernel
theorem dX7_one_32 : decode cX7_one 32 = .ok (.aload_n 0, 1) := by decide +kernel
theorem dX7_one_33 : decode cX7_one 33 = .ok (.getfield 12, 3) := by decide +kernel
theorem dX7_one_36 : decode cX7_one 36 = .ok (.iload_n 1, 1) := by decide +kernel
theorem dX7_one_37 : decode cX7_one 37 = .ok (.bipush 10, 2) := by decide +kernel
theorem dX7_one_39 : decode cX7_one 39 = .ok (.invokevirtual 106, 3) := by decide +kernel
theorem dX7_one_42 : decode cX7_one 42 = .ok (.ireturn, 1) := by decide +kernel
theorem dX7_person_0 : decode cX7_person 0 = .ok (.aload_n 0, 1) := by decide +kernel
theorem dX7_person_1 : decode cX7_person 1 = .ok (.iload_n 1, 1) := by decide +kernel
theorem dX7_person_2 : decode cX7_person 2 = .ok (.invokevirtual 109, 3) := by decide +kernel
theorem dX7_person_5 : decode cX7_person 5 = .ok (.ifCond .eq 31, 3) := by decide +kernel
theorem dX7_person_8 : decode cX7_person 8 = .ok (.iload_n 2, 1) := by decide +kernel
theorem dX7_person_9 : decode cX7_person 9 = .ok (.iconst 0, 1) := by decide +kernel
theorem dX7_person_10 : decode cX7_person 10 = .ok (.iconst 1, 1) := by decide +kernel
theorem dX7_person_11 : decode cX7_person 11 = .ok (.invokestatic 51, 3) := by decide +kernel
theorem dX7_person_14 : decode cX7_person 14 = .ok (.ifCond .eq 22, 3) := by decide +kernel
theorem dX7_person_17 : decode cX7_person 17 = .ok (.iload_n 3, 1) := by decide +kernel
theorem dX7_person_18 : decode cX7_person 18 = .ok (.iconst 0, 1) := by decide +kernel
theorem dX7_person_19 : decode cX7_person 19 = .ok (.iload_n 2, 1) := by decide +kernel
theorem dX7_person_20 : decode cX7_person 20 = .ok (.ifCond .ne 8, 3) := by decide +kernel
theorem dX7_person_23 : decode cX7_person 23 = .ok (.bipush 39, 2) := by decide +kernel
theorem dX7_person_25 : decode cX7_person 25 = .ok (.goto 5, 3) := by decide +kernel
theorem dX7_person_28 : decode cX7_person 28 = .ok (.bipush 60, 2) := by decide +kernel
theorem dX7_person_30 : decode cX7_person 30 = .ok (.invokestatic 51, 3) := by decide +kernel
theorem dX7_person_33 : decode cX7_person 33 = .ok (.ifCond .ne 10, 3) := by decide +kernel
theorem dX7_person_36 : decode cX7_person 36 = .ok (.aload_n 0, 1) := by decide +kernel
theorem dX7_person_37 : decode cX7_person 37 = .ok (.ldc 55, 2) := by decide +kernel
theorem dX7_person_39 : decode cX7_person 39 = .ok (.invokevirtual 56, 3) := by decide +kernel
theorem dX7_person_42 : decode cX7_person 42 = .ok (.ireturn, 1) := by decide +kernel
theorem dX7_person_43 : decode cX7_person 43 = .ok (.aload_n 0, 1) := by decide +kernel
theorem dX7_person_44 : decode cX7_person 44 = .ok (.getfield 12, 3) := by decide +kernel
theorem dX7_person_47 : decode cX7_person 47 = .ok (.iload_n 1, 1) := by decide +kernel
theorem dX7_person_48 : decode cX7_person 48 = .ok (.iload_n 2, 1) := by decide +kernel
theorem dX7_person_49 : decode cX7_person 49 = .ok (.invokevirtual 112, 3) := by decide +kernel
theorem dX7_person_52 : decode cX7_person 52 = .ok (.istore 4, 2) := by decide +kernel
theorem dX7_person_54 : decode cX7_person 54 = .ok (.aload_n 0, 1) := by decide +kernel
theorem dX7_person_55 : decode cX7_person 55 = .ok (.getfield 12, 3) := by decide +kernel
theorem dX7_person_58 : decode cX7_person 58 = .ok (.iload_n 1, 1) := by decide +kernel
theorem dX7_person_59 : decode cX7_person 59 = .ok (.iload_n 2, 1) := by decide +kernel
theorem dX7_person_60 : decode cX7_person 60 = .ok (.iload_n 3, 1) := by decide +kernel
theorem dX7_person_61 : decode cX7_person 61 = .ok (.invokevirtual 115, 3) := by decide +kernel
theorem dX7_person_64 : decode cX7_person 64 = .ok (.iload 4, 2) := by decide +kernel
theorem dX7_person_66 : decode cX7_person 66 = .ok (.ireturn, 1) := by decide +kernel
theorem dX7_tell_0 : decode cX7_tell 0 = .ok (.aload_n 0, 1) := by decide +kernel
theorem dX7_tell_1 : decode cX7_tell 1 = .ok (.iload_n 1, 1) := by decide +kernel
theorem dX7_tell_2 : decode cX7_tell 2 = .ok (.invokevirtual 109, 3) := by decide +kernel
theorem dX7_tell_5 : decode cX7_tell 5 = .ok (.ifCond .eq 12, 3) := by decide +kernel
theorem dX7_tell_8 : decode cX7_tell 8 = .ok (.iload_n 2, 1) := by decide +kernel
theorem dX7_tell_9 : decode cX7_tell 9 = .ok (.iconst 0, 1) := by decide +kernel
theorem dX7_tell_10 : decode cX7_tell 10 = .ok (.iconst 1, 1) := by decide +kernel
theorem dX7_tell_11 : decode cX7_tell 11 = .ok (.invokestatic 51, 3) := by decide +kernel
theorem dX7_tell_14 : decode cX7_tell 14 = .ok (.ifCond .ne 10, 3) := by decide +kernel
theorem dX7_tell_17 : decode cX7_tell 17 = .ok (.aload_n 0, 1) := by decide +kernel
theorem dX7_tell_18 : decode cX7_tell 18 = .ok (.ldc 55, 2) := by decide +kernel
theorem dX7_tell_20 : decode cX7_tell 20 = .ok (.invokevirtual 56, 3) := by decide +kernel
theorem dX7_tell_23 : decode cX7_tell 23 = .ok (.ireturn, 1) := by decide +kernel
theorem dX7_tell_24 : decode cX7_tell 24 = .ok (.aload_n 0, 1) := by decide +kernel
theorem dX7_tell_25 : decode cX7_tell 25 = .ok (.getfield 12, 3) := by decide +kernel
theorem dX7_tell_28 : decode cX7_tell 28 = .ok (.iload_n 1, 1) := by decide +kernel
theorem dX7_tell_29 : decode cX7_tell 29 = .ok (.iload_n 2, 1) := by decide +kernel
theorem dX7_tell_30 : decode cX7_tell 30 = .ok (.invokevirtual 112, 3) := by decide +kernel
theorem dX7_tell_33 : decode cX7_tell 33 = .ok (.ireturn, 1) := by decide +kernel
theorem dX7_lie_0 : decode cX7_lie 0 = .ok (.iload_n 1, 1) := by decide +kernel
theorem dX7_lie_1 : decode cX7_lie 1 = .ok (.invokestatic 47, 3) := by decide +kernel
theorem dX7_lie_4 : decode cX7_lie 4 = .ok (.ifCond .ne 10, 3) := by decide +kernel
theorem dX7_lie_7 : decode cX7_lie 7 = .ok (.aload_n 0, 1) := by decide +kernel
theorem dX7_lie_8 : decode cX7_lie 8 = .ok (.ldc 55, 2) := by decide +kernel
theorem dX7_lie_10 : decode cX7_lie 10 = .ok (.invokevirtual 56, 3) := by decide +kernel
theorem dX7_lie_13 : decode cX7_lie 13 = .ok (.ireturn, 1) := by decide +kernel
theorem dX7_lie_14 : decode cX7_lie 14 = .ok (.aload_n 0, 1) := by decide +kernel
theorem dX7_lie_15 : decode cX7_lie 15 = .ok (.getfield 12, 3) := by decide +kernel
theorem dX7_lie_18 : decode cX7_lie 18 = .ok (.iload_n 1, 1) := by decide +kernel
theorem dX7_lie_19 : decode cX7_lie 19 = .ok (.invokevirtual 118, 3) := by decide +kernel
theorem dX7_lie_22 : decode cX7_lie 22 = .ok (.ireturn, 1) := by decide +kernel
theorem dX7_walk_0 : decode cX7_walk 0 = .ok (.aload_n 0, 1) := by decide +kernel
theorem dX7_walk_1 : decode cX7_walk 1 = .ok (.iload_n 1, 1) := by decide +kernel
theorem dX7_walk_2 : decode cX7_walk 2 = .ok (.invokevirtual 109, 3) := by decide +kernel
theorem dX7_walk_5 : decode cX7_walk 5 = .ok (.ifCond .eq 10, 3) := by decide +kernel
theorem dX7_walk_8 : decode cX7_walk 8 = .ok (.iload_n 2, 1) := by decide +kernel
theorem dX7_walk_9 : decode cX7_walk 9 = .ok (.invokestatic 47, 3) := by decide +kernel
theorem dX7_walk_12 : decode cX7_walk 12 = .ok (.ifCond .ne 10, 3) := by decide +kernel
theorem dX7_walk_15 : decode cX7_walk 15 = .ok (.aload_n 0, 1) := by decide +kernel
theorem dX7_walk_16 : decode cX7_walk 16 = .ok (.ldc 55, 2) := by decide +kernel
theorem dX7_walk_18 : decode cX7_walk 18 = .ok (.invokevirtual 56, 3) := by decide +kernel
theorem dX7_walk_21 : decode cX7_walk 21 = .ok (.ireturn, 1) := by decide +kernel
theorem dX7_walk_22 : decode cX7_walk 22 = .ok (.aload_n 0, 1) := by decide +kernel
theorem dX7_walk_23 : decode cX7_walk 23 = .ok (.getfield 12, 3) := by decide +kernel
theorem dX7_walk_26 : decode cX7_walk 26 = .ok (.aload_n 0, 1) := by decide +kernel
theorem dX7_walk_27 : decode cX7_walk 27 = .ok (.getfield 12, 3) := by decide +kernel
theorem dX7_walk_30 : decode cX7_walk 30 = .ok (.iload_n 1, 1) := by decide +kernel
theorem dX7_walk_31 : decode cX7_walk 31 = .ok (.invokevirtual 121, 3) := by decide +kernel
theorem dX7_walk_34 : decode cX7_walk 34 = .ok (.iload_n 2, 1) := by decide +kernel
theorem dX7_walk_35 : decode cX7_walk 35 = .ok (.invokevirtual 60, 3) := by decide +kernel
theorem dX7_walk_38 : decode cX7_walk 38 = .ok (.ifCond .ne 10, 3) := by decide +kernel
theorem dX7_walk_41 : decode cX7_walk 41 = .ok (.aload_n 0, 1) := by decide +kernel
theorem dX7_walk_42 : decode cX7_walk 42 = .ok (.ldc 124, 2) := by decide +kernel
theorem dX7_walk_44 : decode cX7_walk 44 = .ok (.invokevirtual 56, 3) := by decide +kernel
theorem dX7_walk_47 : decode cX7_walk 47 = .ok (.ireturn, 1) := by decide +kernel
theorem dX7_walk_48 : decode cX7_walk 48 = .ok (.aload_n 0, 1) := by decide +kernel
theorem dX7_walk_49 : decode cX7_walk 49 = .ok (.getfield 12, 3) := by decide +kernel
theorem dX7_walk_52 : decode cX7_walk 52 = .ok (.iload_n 1, 1) := by decide +kernel
theorem dX7_walk_53 : decode cX7_walk 53 = .ok (.iload_n 2, 1) := by decide +kernel
theorem dX7_walk_54 : decode cX7_walk 54 = .ok (.invokevirtual 125, 3) := by decide +kernel
theorem dX7_walk_57 : decode cX7_walk 57 = .ok (.aload_n 0, 1) := by decide +kernel
theorem dX7_walk_58 : decode cX7_walk 58 = .ok (.getfield 12, 3) := by decide +kernel
theorem dX7_walk_61 : decode cX7_walk 61 = .ok (.getfield 129, 3) := by decide +kernel
theorem dX7_walk_64 : decode cX7_walk 64 = .ok (.iload_n 1, 1) := by decide +kernel
theorem dX7_walk_65 : decode cX7_walk 65 = .ok (.iaload, 1) := by decide +kernel
theorem dX7_walk_66 : decode cX7_walk 66 = .ok (.ireturn, 1) := by decide +kernel
theorem dX7_in_0 : decode cX7_in 0 = .ok (.aload_n 0, 1) := by decide +kernel
theorem dX7_in_1 : decode cX7_in 1 = .ok (.iload_n 1, 1) := by decide +kernel
theorem dX7_in_2 : decode cX7_in 2 = .ok (.invokevirtual 109, 3) := by decide +kernel
theorem dX7_in_5 : decode cX7_in 5 = .ok (.ifCond .ne 10, 3) := by decide +kernel
theorem dX7_in_8 : decode cX7_in 8 = .ok (.aload_n 0, 1) := by decide +kernel
theorem dX7_in_9 : decode cX7_in 9 = .ok (.ldc 55, 2) := by decide +kernel
theorem dX7_in_11 : decode cX7_in 11 = .ok (.invokevirtual 56, 3) := by decide +kernel
theorem dX7_in_14 : decode cX7_in 14 = .ok (.ireturn, 1) := by decide +kernel
theorem dX7_in_15 : decode cX7_in 15 = .ok (.aload_n 0, 1) := by decide +kernel
theorem dX7_in_16 : decode cX7_in 16 = .ok (.iload_n 1, 1) := by decide +kernel
theorem dX7_in_17 : decode cX7_in 17 = .ok (.aload_n 0, 1) := by decide +kernel
theorem dX7_in_18 : decode cX7_in 18 = .ok (.getfield 12, 3) := by decide +kernel
theorem dX7_in_21 : decode cX7_in 21 = .ok (.aload_n 0, 1) := by decide +kernel
theorem dX7_in_22 : decode cX7_in 22 = .ok (.getfield 12, 3) := by decide +kernel
theorem dX7_in_25 : decode cX7_in 25 = .ok (.getfield 129, 3) := by decide +kernel
theorem dX7_in_28 : decode cX7_in 28 = .ok (.iload_n 1, 1) := by decide +kernel
theorem dX7_in_29 : decode cX7_in 29 = .ok (.iaload, 1) := by decide +kernel
theorem dX7_in_30 : decode cX7_in 30 = .ok (.invokevirtual 132, 3) := by decide +kernel
theorem dX7_in_33 : decode cX7_in 33 = .ok (.invokevirtual 135, 3) := by decide +kernel
theorem dX7_in_36 : decode cX7_in 36 = .ok (.ireturn, 1) := by decide +kernel
theorem dX7_out_0 : decode cX7_out 0 = .ok (.aload_n 0, 1) := by decide +kernel
theorem dX7_out_1 : decode cX7_out 1 = .ok (.iload_n 1, 1) := by decide +kernel
theorem dX7_out_2 : decode cX7_out 2 = .ok (.invokevirtual 109, 3) := by decide +kernel
theorem dX7_out_5 : decode cX7_out 5 = .ok (.ifCond .ne 10, 3) := by decide +kernel
theorem dX7_out_8 : decode cX7_out 8 = .ok (.aload_n 0, 1) := by decide +kernel
theorem dX7_out_9 : decode cX7_out 9 = .ok (.ldc 55, 2) := by decide +kernel
theorem dX7_out_11 : decode cX7_out 11 = .ok (.invokevirtual 56, 3) := by decide +kernel
theorem dX7_out_14 : decode cX7_out 14 = .ok (.ireturn, 1) := by decide +kernel
theorem dX7_out_15 : decode cX7_out 15 = .ok (.aload_n 0, 1) := by decide +kernel
theorem dX7_out_16 : decode cX7_out 16 = .ok (.iload_n 1, 1) := by decide +kernel
theorem dX7_out_17 : decode cX7_out 17 = .ok (.aload_n 0, 1) := by decide +kernel
theorem dX7_out_18 : decode cX7_out 18 = .ok (.getfield 12, 3) := by decide +kernel
theorem dX7_out_21 : decode cX7_out 21 = .ok (.aload_n 0, 1) := by decide +kernel
theorem dX7_out_22 : decode cX7_out 22 = .ok (.getfield 12, 3) := by decide +kernel
theorem dX7_out_25 : decode cX7_out 25 = .ok (.getfield 129, 3) := by decide +kernel
theorem dX7_out_28 : decode cX7_out 28 = .ok (.iload_n 1, 1) := by decide +kernel
theorem dX7_out_29 : decode cX7_out 29 = .ok (.iaload, 1) := by decide +kernel
theorem dX7_out_30 : decode cX7_out 30 = .ok (.invokevirtual 138, 3) := by decide +kernel
theorem dX7_out_33 : decode cX7_out 33 = .ok (.invokevirtual 135, 3) := by decide +kernel
theorem dX7_out_36 : decode cX7_out 36 = .ok (.ireturn, 1) := by decide +kernel
theorem dX7_carry_0 : decode cX7_carry 0 = .ok (.aload_n 0, 1) := by decide +kernel
theorem dX7_carry_1 : decode cX7_carry 1 = .ok (.iload_n 1, 1) := by decide +kernel
theorem dX7_carry_2 : decode cX7_carry 2 = .ok (.invokevirtual 109, 3) := by decide +kernel
theorem dX7_carry_5 : decode cX7_carry 5 = .ok (.ifCond .eq 18, 3) := by decide +kernel
theorem dX7_carry_8 : decode cX7_carry 8 = .ok (.aload_n 0, 1) := by decide +kernel
theorem dX7_carry_9 : decode cX7_carry 9 = .ok (.iload_n 2, 1) := by decide +kernel
theorem dX7_carry_10 : decode cX7_carry 10 = .ok (.invokevirtual 84, 3) := by decide +kernel
theorem dX7_carry_13 : decode cX7_carry 13 = .ok (.ifCond .eq 10, 3) := by decide +kernel
theorem dX7_carry_16 : decode cX7_carry 16 = .ok (.iload_n 3, 1) := by decide +kernel
theorem dX7_carry_17 : decode cX7_carry 17 = .ok (.invokestatic 47, 3) := by decide +kernel
theorem dX7_carry_20 : decode cX7_carry 20 = .ok (.ifCond .ne 10, 3) := by decide +kernel
theorem dX7_carry_23 : decode cX7_carry 23 = .ok (.aload_n 0, 1) := by decide +kernel
theorem dX7_carry_24 : decode cX7_carry 24 = .ok (.ldc 55, 2) := by decide +kernel
theorem dX7_carry_26 : decode cX7_carry 26 = .ok (.invokevirtual 56, 3) := by decide +kernel
theorem dX7_carry_29 : decode cX7_carry 29 = .ok (.ireturn, 1) := by decide +kernel
theorem dX7_carry_30 : decode cX7_carry 30 = .ok (.aload_n 0, 1) := by decide +kernel
theorem dX7_carry_31 : decode cX7_carry 31 = .ok (.getfield 12, 3) := by decide +kernel
theorem dX7_carry_34 : decode cX7_carry 34 = .ok (.iload_n 1, 1) := by decide +kernel
theorem dX7_carry_35 : decode cX7_carry 35 = .ok (.iload_n 2, 1) := by decide +kernel
theorem dX7_carry_36 : decode cX7_carry 36 = .ok (.invokevirtual 141, 3) := by decide +kernel
theorem dX7_carry_39 : decode cX7_carry 39 = .ok (.ifCond .eq 22, 3) := by decide +kernel
theorem dX7_carry_42 : decode cX7_carry 42 = .ok (.aload_n 0, 1) := by decide +kernel
theorem dX7_carry_43 : decode cX7_carry 43 = .ok (.getfield 12, 3) := by decide +kernel
theorem dX7_carry_46 : decode cX7_carry 46 = .ok (.aload_n 0, 1) := by decide +kernel
theorem dX7_carry_47 : decode cX7_carry 47 = .ok (.getfield 12, 3) := by decide +kernel
theorem dX7_carry_50 : decode cX7_carry 50 = .ok (.iload_n 1, 1) := by decide +kernel
theorem dX7_carry_51 : decode cX7_carry 51 = .ok (.invokevirtual 121, 3) := by decide +kernel
theorem dX7_carry_54 : decode cX7_carry 54 = .ok (.iload_n 3, 1) := by decide +kernel
theorem dX7_carry_55 : decode cX7_carry 55 = .ok (.invokevirtual 60, 3) := by decide +kernel
theorem dX7_carry_58 : decode cX7_carry 58 = .ok (.ifCond .ne 10, 3) := by decide +kernel
theorem dX7_carry_61 : decode cX7_carry 61 = .ok (.aload_n 0, 1) := by decide +kernel
theorem dX7_carry_62 : decode cX7_carry 62 = .ok (.ldc 124, 2) := by decide +kernel
theorem dX7_carry_64 : decode cX7_carry 64 = .ok (.invokevirtual 56, 3) := by decide +kernel
theorem dX7_carry_67 : decode cX7_carry 67 = .ok (.ireturn, 1) := by decide +kernel
theorem dX7_carry_68 : decode cX7_carry 68 = .ok (.aload_n 0, 1) := by decide +kernel
theorem dX7_carry_69 : decode cX7_carry 69 = .ok (.getfield 12, 3) := by decide +kernel
theorem dX7_carry_72 : decode cX7_carry 72 = .ok (.iload_n 1, 1) := by decide +kernel
theorem dX7_carry_73 : decode cX7_carry 73 = .ok (.iload_n 2, 1) := by decide +kernel
theorem dX7_carry_74 : decode cX7_carry 74 = .ok (.iload_n 3, 1) := by decide +kernel
theorem dX7_carry_75 : decode cX7_carry 75 = .ok (.invokevirtual 144, 3) := by decide +kernel
theorem dX7_carry_78 : decode cX7_carry 78 = .ok (.ireturn, 1) := by decide +kernel
theorem dX7_reach_0 : decode cX7_reach 0 = .ok (.aload_n 0, 1) := by decide +kernel
theorem dX7_reach_1 : decode cX7_reach 1 = .ok (.iload_n 1, 1) := by decide +kernel
theorem dX7_reach_2 : decode cX7_reach 2 = .ok (.invokevirtual 109, 3) := by decide +kernel
theorem dX7_reach_5 : decode cX7_reach 5 = .ok (.ifCond .eq 18, 3) := by decide +kernel
theorem dX7_reach_8 : decode cX7_reach 8 = .ok (.aload_n 0, 1) := by decide +kernel
theorem dX7_reach_9 : decode cX7_reach 9 = .ok (.iload_n 2, 1) := by decide +kernel
theorem dX7_reach_10 : decode cX7_reach 10 = .ok (.invokevirtual 84, 3) := by decide +kernel
theorem dX7_reach_13 : decode cX7_reach 13 = .ok (.ifCond .eq 10, 3) := by decide +kernel
theorem dX7_reach_16 : decode cX7_reach 16 = .ok (.iload_n 3, 1) := by decide +kernel
theorem dX7_reach_17 : decode cX7_reach 17 = .ok (.invokestatic 47, 3) := by decide +kernel
theorem dX7_reach_20 : decode cX7_reach 20 = .ok (.ifCond .ne 10, 3) := by decide +kernel
theorem dX7_reach_23 : decode cX7_reach 23 = .ok (.aload_n 0, 1) := by decide +kernel
theorem dX7_reach_24 : decode cX7_reach 24 = .ok (.ldc 55, 2) := by decide +kernel
theorem dX7_reach_26 : decode cX7_reach 26 = .ok (.invokevirtual 56, 3) := by decide +kernel
theorem dX7_reach_29 : decode cX7_reach 29 = .ok (.ireturn, 1) := by decide +kernel
theorem dX7_reach_30 : decode cX7_reach 30 = .ok (.aload_n 0, 1) := by decide +kernel
theorem dX7_reach_31 : decode cX7_reach 31 = .ok (.getfield 12, 3) := by decide +kernel
theorem dX7_reach_34 : decode cX7_reach 34 = .ok (.iload_n 1, 1) := by decide +kernel
theorem dX7_reach_35 : decode cX7_reach 35 = .ok (.iload_n 2, 1) := by decide +kernel
theorem dX7_reach_36 : decode cX7_reach 36 = .ok (.invokevirtual 147, 3) := by decide +kernel
theorem dX7_reach_39 : decode cX7_reach 39 = .ok (.ifCond .eq 16, 3) := by decide +kernel
theorem dX7_reach_42 : decode cX7_reach 42 = .ok (.aload_n 0, 1) := by decide +kernel
theorem dX7_reach_43 : decode cX7_reach 43 = .ok (.getfield 12, 3) := by decide +kernel
theorem dX7_reach_46 : decode cX7_reach 46 = .ok (.getfield 150, 3) := by decide +kernel
theorem dX7_reach_49 : decode cX7_reach 49 = .ok (.iload_n 2, 1) := by decide +kernel
theorem dX7_reach_50 : decode cX7_reach 50 = .ok (.iaload, 1) := by decide +kernel
theorem dX7_reach_51 : decode cX7_reach 51 = .ok (.iload_n 3, 1) := by decide +kernel
theorem dX7_reach_52 : decode cX7_reach 52 = .ok (.if_icmp .ne 10, 3) := by decide +kernel
theorem dX7_reach_55 : decode cX7_reach 55 = .ok (.aload_n 0, 1) := by decide +kernel
theorem dX7_reach_56 : decode cX7_reach 56 = .ok (.ldc 124, 2) := by decide +kernel
theorem dX7_reach_58 : decode cX7_reach 58 = .ok (.invokevirtual 56, 3) := by decide +kernel
theorem dX7_reach_61 : decode cX7_reach 61 = .ok (.ireturn, 1) := by decide +kernel
theorem dX7_reach_62 : decode cX7_reach 62 = .ok (.aload_n 0, 1) := by decide +kernel
theorem dX7_reach_63 : decode cX7_reach 63 = .ok (.getfield 12, 3) := by decide +kernel
theorem dX7_reach_66 : decode cX7_reach 66 = .ok (.iload_n 1, 1) := by decide +kernel
theorem dX7_reach_67 : decode cX7_reach 67 = .ok (.iload_n 2, 1) := by decide +kernel
theorem dX7_reach_68 : decode cX7_reach 68 = .ok (.iload_n 3, 1) := by decide +kernel
theorem dX7_reach_69 : decode cX7_reach 69 = .ok (.invokevirtual 153, 3) := by decide +kernel
theorem dX7_reach_72 : decode cX7_reach 72 = .ok (.ireturn, 1) := by decide +kernel
theorem dX7_lift_0 : decode cX7_lift 0 = .ok (.aload_n 0, 1) := by decide +kernel
theorem dX7_lift_1 : decode cX7_lift 1 = .ok (.iload_n 1, 1) := by decide +kernel
theorem dX7_lift_2 : decode cX7_lift 2 = .ok (.invokevirtual 109, 3) := by decide +kernel
theorem dX7_lift_5 : decode cX7_lift 5 = .ok (.ifCond .eq 23, 3) := by decide +kernel
theorem dX7_lift_8 : decode cX7_lift 8 = .ok (.aload_n 0, 1) := by decide +kernel
theorem dX7_lift_9 : decode cX7_lift 9 = .ok (.iload_n 2, 1) := by decide +kernel
theorem dX7_lift_10 : decode cX7_lift 10 = .ok (.invokevirtual 109, 3) := by decide +kernel
theorem dX7_lift_13 : decode cX7_lift 13 = .ok (.ifCond .eq 15, 3) := by decide +kernel
theorem dX7_lift_16 : decode cX7_lift 16 = .ok (.iload_n 1, 1) := by decide +kernel
theorem dX7_lift_17 : decode cX7_lift 17 = .ok (.iload_n 2, 1) := by decide +kernel
theorem dX7_lift_18 : decode cX7_lift 18 = .ok (.if_icmp .eq 10, 3) := by decide +kernel
theorem dX7_lift_21 : decode cX7_lift 21 = .ok (.iload_n 3, 1) := by decide +kernel
theorem dX7_lift_22 : decode cX7_lift 22 = .ok (.invokestatic 47, 3) := by decide +kernel
theorem dX7_lift_25 : decode cX7_lift 25 = .ok (.ifCond .ne 10, 3) := by decide +kernel
theorem dX7_lift_28 : decode cX7_lift 28 = .ok (.aload_n 0, 1) := by decide +kernel
theorem dX7_lift_29 : decode cX7_lift 29 = .ok (.ldc 55, 2) := by decide +kernel
theorem dX7_lift_31 : decode cX7_lift 31 = .ok (.invokevirtual 56, 3) := by decide +kernel
theorem dX7_lift_34 : decode cX7_lift 34 = .ok (.ireturn, 1) := by decide +kernel
theorem dX7_lift_35 : decode cX7_lift 35 = .ok (.aload_n 0, 1) := by decide +kernel
theorem dX7_lift_36 : decode cX7_lift 36 = .ok (.getfield 12, 3) := by decide +kernel
theorem dX7_lift_39 : decode cX7_lift 39 = .ok (.iload_n 1, 1) := by decide +kernel
theorem dX7_lift_40 : decode cX7_lift 40 = .ok (.iload_n 2, 1) := by decide +kernel
theorem dX7_lift_41 : decode cX7_lift 41 = .ok (.invokevirtual 156, 3) := by decide +kernel
theorem dX7_lift_44 : decode cX7_lift 44 = .ok (.ifCond .eq 15, 3) := by decide +kernel
theorem dX7_lift_47 : decode cX7_lift 47 = .ok (.aload_n 0, 1) := by decide +kernel
theorem dX7_lift_48 : decode cX7_lift 48 = .ok (.getfield 12, 3) := by decide +kernel
theorem dX7_lift_51 : decode cX7_lift 51 = .ok (.iload_n 2, 1) := by decide +kernel
theorem dX7_lift_52 : decode cX7_lift 52 = .ok (.invokevirtual 121, 3) := by decide +kernel
theorem dX7_lift_55 : decode cX7_lift 55 = .ok (.iload_n 3, 1) := by decide +kernel
theorem dX7_lift_56 : decode cX7_lift 56 = .ok (.if_icmp .ne 10, 3) := by decide +kernel
theorem dX7_lift_59 : decode cX7_lift 59 = .ok (.aload_n 0, 1) := by decide +kernel
theorem dX7_lift_60 : decode cX7_lift 60 = .ok (.ldc 124, 2) := by decide +kernel
theorem dX7_lift_62 : decode cX7_lift 62 = .ok (.invokevirtual 56, 3) := by decide +kernel
theorem dX7_lift_65 : decode cX7_lift 65 = .ok (.ireturn, 1) := by decide +kernel
theorem dX7_lift_66 : decode cX7_lift 66 = .ok (.aload_n 0, 1) := by decide +kernel
theorem dX7_lift_67 : decode cX7_lift 67 = .ok (.getfield 12, 3) := by decide +kernel
theorem dX7_lift_70 : decode cX7_lift 70 = .ok (.iload_n 2, 1) := by decide +kernel
theorem dX7_lift_71 : decode cX7_lift 71 = .ok (.iload_n 3, 1) := by decide +kernel
theorem dX7_lift_72 : decode cX7_lift 72 = .ok (.invokevirtual 125, 3) := by decide +kernel
theorem dX7_lift_75 : decode cX7_lift 75 = .ok (.aload_n 0, 1) := by decide +kernel
theorem dX7_lift_76 : decode cX7_lift 76 = .ok (.getfield 12, 3) := by decide +kernel
theorem dX7_lift_79 : decode cX7_lift 79 = .ok (.dup, 1) := by decide +kernel
theorem dX7_lift_80 : decode cX7_lift 80 = .ok (.getfield 159, 3) := by decide +kernel
theorem dX7_lift_83 : decode cX7_lift 83 = .ok (.iconst 1, 1) := by decide +kernel
theorem dX7_lift_84 : decode cX7_lift 84 = .ok (.iadd, 1) := by decide +kernel
theorem dX7_lift_85 : decode cX7_lift 85 = .ok (.putfield 159, 3) := by decide +kernel
theorem dX7_lift_88 : decode cX7_lift 88 = .ok (.aload_n 0, 1) := by decide +kernel
theorem dX7_lift_89 : decode cX7_lift 89 = .ok (.getfield 12, 3) := by decide +kernel
theorem dX7_lift_92 : decode cX7_lift 92 = .ok (.getfield 159, 3) := by decide +kernel
theorem dX7_lift_95 : decode cX7_lift 95 = .ok (.ireturn, 1) := by decide +kernel
theorem dX7_now_0 : decode cX7_now 0 = .ok (.iload_n 1, 1) := by decide +kernel
theorem dX7_now_1 : decode cX7_now 1 = .ok (.tableswitch 99 0 6 #[43, 51, 59, 67, 75, 83, 91], 43) := by decide +kernel
theorem dX7_now_44 : decode cX7_now 44 = .ok (.aload_n 0, 1) := by decide +kernel
theorem dX7_now_45 : decode cX7_now 45 = .ok (.getfield 12, 3) := by decide +kernel
theorem dX7_now_48 : decode cX7_now 48 = .ok (.getfield 159, 3) := by decide +kernel
theorem dX7_now_51 : decode cX7_now 51 = .ok (.ireturn, 1) := by decide +kernel
theorem dX7_now_52 : decode cX7_now 52 = .ok (.aload_n 0, 1) := by decide +kernel
theorem dX7_now_53 : decode cX7_now 53 = .ok (.getfield 12, 3) := by decide +kernel
theorem dX7_now_56 : decode cX7_now 56 = .ok (.getfield 162, 3) := by decide +kernel
theorem dX7_now_59 : decode cX7_now 59 = .ok (.ireturn, 1) := by decide +kernel
theorem dX7_now_60 : decode cX7_now 60 = .ok (.aload_n 0, 1) := by decide +kernel
theorem dX7_now_61 : decode cX7_now 61 = .ok (.getfield 12, 3) := by decide +kernel
theorem dX7_now_64 : decode cX7_now 64 = .ok (.getfield 165, 3) := by decide +kernel
theorem dX7_now_67 : decode cX7_now 67 = .ok (.ireturn, 1) := by decide +kernel
theorem dX7_now_68 : decode cX7_now 68 = .ok (.aload_n 0, 1) := by decide +kernel
theorem dX7_now_69 : decode cX7_now 69 = .ok (.getfield 12, 3) := by decide +kernel
theorem dX7_now_72 : decode cX7_now 72 = .ok (.getfield 168, 3) := by decide +kernel
theorem dX7_now_75 : decode cX7_now 75 = .ok (.ireturn, 1) := by decide +kernel
theorem dX7_now_76 : decode cX7_now 76 = .ok (.aload_n 0, 1) := by decide +kernel
theorem dX7_now_77 : decode cX7_now 77 = .ok (.getfield 12, 3) := by decide +kernel
theorem dX7_now_80 : decode cX7_now 80 = .ok (.getfield 171, 3) := by decide +kernel
theorem dX7_now_83 : decode cX7_now 83 = .ok (.ireturn, 1) := by decide +kernel
theorem dX7_now_84 : decode cX7_now 84 = .ok (.aload_n 0, 1) := by decide +kernel
theorem dX7_now_85 : decode cX7_now 85 = .ok (.getfield 12, 3) := by decide +kernel
theorem dX7_now_88 : decode cX7_now 88 = .ok (.getfield 174, 3) := by decide +kernel
theorem dX7_now_91 : decode cX7_now 91 = .ok (.ireturn, 1) := by decide +kernel
theorem dX7_now_92 : decode cX7_now 92 = .ok (.aload_n 0, 1) := by decide +kernel
theorem dX7_now_93 : decode cX7_now 93 = .ok (.getfield 12, 3) := by decide +kernel
theorem dX7_now_96 : decode cX7_now 96 = .ok (.getfield 177, 3) := by decide +kernel
theorem dX7_now_99 : decode cX7_now 99 = .ok (.ireturn, 1) := by decide +kernel
theorem dX7_now_100 : decode cX7_now 100 = .ok (.aload_n 0, 1) := by decide +kernel
theorem dX7_now_101 : decode cX7_now 101 = .ok (.ldc 55, 2) := by decide +kernel
theorem dX7_now_103 : decode cX7_now 103 = .ok (.invokevirtual 56, 3) := by decide +kernel
theorem dX7_now_106 : decode cX7_now 106 = .ok (.ireturn, 1) := by decide +kernel
theorem dX7_book_0 : decode cX7_book 0 = .ok (.iload_n 1, 1) := by decide +kernel
theorem dX7_book_1 : decode cX7_book 1 = .ok (.ifCond .lt 12, 3) := by decide +kernel
theorem dX7_book_4 : decode cX7_book 4 = .ok (.iload_n 2, 1) := by decide +kernel
theorem dX7_book_5 : decode cX7_book 5 = .ok (.iconst 0, 1) := by decide +kernel
theorem dX7_book_6 : decode cX7_book 6 = .ok (.iconst 4, 1) := by decide +kernel
theorem dX7_book_7 : decode cX7_book 7 = .ok (.invokestatic 51, 3) := by decide +kernel
theorem dX7_book_10 : decode cX7_book 10 = .ok (.ifCond .ne 10, 3) := by decide +kernel
theorem dX7_book_13 : decode cX7_book 13 = .ok (.aload_n 0, 1) := by decide +kernel
theorem dX7_book_14 : decode cX7_book 14 = .ok (.ldc 55, 2) := by decide +kernel
theorem dX7_book_16 : decode cX7_book 16 = .ok (.invokevirtual 56, 3) := by decide +kernel
theorem dX7_book_19 : decode cX7_book 19 = .ok (.ireturn, 1) := by decide +kernel
theorem dX7_book_20 : decode cX7_book 20 = .ok (.iload_n 1, 1) := by decide +kernel
theorem dX7_book_21 : decode cX7_book 21 = .ok (.aload_n 0, 1) := by decide +kernel
theorem dX7_book_22 : decode cX7_book 22 = .ok (.getfield 12, 3) := by decide +kernel
theorem dX7_book_25 : decode cX7_book 25 = .ok (.getfield 177, 3) := by decide +kernel
theorem dX7_book_28 : decode cX7_book 28 = .ok (.if_icmp .lt 10, 3) := by decide +kernel
theorem dX7_book_31 : decode cX7_book 31 = .ok (.aload_n 0, 1) := by decide +kernel
theorem dX7_book_32 : decode cX7_book 32 = .ok (.ldc 180, 2) := by decide +kernel
theorem dX7_book_34 : decode cX7_book 34 = .ok (.invokevirtual 56, 3) := by decide +kernel
theorem dX7_book_37 : decode cX7_book 37 = .ok (.ireturn, 1) := by decide +kernel
theorem dX7_book_38 : decode cX7_book 38 = .ok (.aload_n 0, 1) := by decide +kernel
theorem dX7_book_39 : decode cX7_book 39 = .ok (.getfield 12, 3) := by decide +kernel
theorem dX7_book_42 : decode cX7_book 42 = .ok (.getfield 181, 3) := by decide +kernel
theorem dX7_book_45 : decode cX7_book 45 = .ok (.iload_n 1, 1) := by decide +kernel
theorem dX7_book_46 : decode cX7_book 46 = .ok (.iconst 5, 1) := by decide +kernel
theorem dX7_book_47 : decode cX7_book 47 = .ok (.imul, 1) := by decide +kernel
theorem dX7_book_48 : decode cX7_book 48 = .ok (.iload_n 2, 1) := by decide +kernel
theorem dX7_book_49 : decode cX7_book 49 = .ok (.iadd, 1) := by decide +kernel
theorem dX7_book_50 : decode cX7_book 50 = .ok (.iaload, 1) := by decide +kernel
theorem dX7_book_51 : decode cX7_book 51 = .ok (.ireturn, 1) := by decide +kernel
theorem dX7_ways_0 : decode cX7_ways 0 = .ok (.aload_n 0, 1) := by decide +kernel
theorem dX7_ways_1 : decode cX7_ways 1 = .ok (.iload_n 1, 1) := by decide +kernel
theorem dX7_ways_2 : decode cX7_ways 2 = .ok (.invokevirtual 109, 3) := by decide +kernel
theorem dX7_ways_5 : decode cX7_ways 5 = .ok (.ifCond .ne 11, 3) := by decide +kernel
theorem dX7_ways_8 : decode cX7_ways 8 = .ok (.aload_n 0, 1) := by decide +kernel
theorem dX7_ways_9 : decode cX7_ways 9 = .ok (.ldc 55, 2) := by decide +kernel
theorem dX7_ways_11 : decode cX7_ways 11 = .ok (.invokevirtual 56, 3) := by decide +kernel
theorem dX7_ways_14 : decode cX7_ways 14 = .ok (.i2l, 1) := by decide +kernel
theorem dX7_ways_15 : decode cX7_ways 15 = .ok (.lreturn, 1) := by decide +kernel
theorem dX7_ways_16 : decode cX7_ways 16 = .ok (.aload_n 0, 1) := by decide +kernel
theorem dX7_ways_17 : decode cX7_ways 17 = .ok (.getfield 25, 3) := by decide +kernel
theorem dX7_ways_20 : decode cX7_ways 20 = .ok (.aload_n 0, 1) := by decide +kernel
theorem dX7_ways_21 : decode cX7_ways 21 = .ok (.getfield 12, 3) := by decide +kernel
theorem dX7_ways_24 : decode cX7_ways 24 = .ok (.aload_n 0, 1) := by decide +kernel
theorem dX7_ways_25 : decode cX7_ways 25 = .ok (.getfield 12, 3) := by decide +kernel
theorem dX7_ways_28 : decode cX7_ways 28 = .ok (.getfield 129, 3) := by decide +kernel
theorem dX7_ways_31 : decode cX7_ways 31 = .ok (.iload_n 1, 1) := by decide +kernel
theorem dX7_ways_32 : decode cX7_ways 32 = .ok (.iaload, 1) := by decide +kernel
theorem dX7_ways_33 : decode cX7_ways 33 = .ok (.invokevirtual 184, 3) := by decide +kernel
theorem dX7_ways_36 : decode cX7_ways 36 = .ok (.lreturn, 1) := by decide +kernel
theorem dX7_far_0 : decode cX7_far 0 = .ok (.aload_n 0, 1) := by decide +kernel
theorem dX7_far_1 : decode cX7_far 1 = .ok (.iload_n 1, 1) := by decide +kernel
theorem dX7_far_2 : decode cX7_far 2 = .ok (.invokevirtual 109, 3) := by decide +kernel
theorem dX7_far_5 : decode cX7_far 5 = .ok (.ifCond .eq 10, 3) := by decide +kernel
theorem dX7_far_8 : decode cX7_far 8 = .ok (.iload_n 2, 1) := by decide +kernel
theorem dX7_far_9 : decode cX7_far 9 = .ok (.invokestatic 100, 3) := by decide +kernel
theorem dX7_far_12 : decode cX7_far 12 = .ok (.ifCond .ne 10, 3) := by decide +kernel
theorem dX7_far_15 : decode cX7_far 15 = .ok (.aload_n 0, 1) := by decide +kernel
theorem dX7_far_16 : decode cX7_far 16 = .ok (.ldc 55, 2) := by decide +kernel
theorem dX7_far_18 : decode cX7_far 18 = .ok (.invokevirtual 56, 3) := by decide +kernel
theorem dX7_far_21 : decode cX7_far 21 = .ok (.ireturn, 1) := by decide +kernel
theorem dX7_far_22 : decode cX7_far 22 = .ok (.aload_n 0, 1) := by decide +kernel
theorem dX7_far_23 : decode cX7_far 23 = .ok (.aload_n 0, 1) := by decide +kernel
theorem dX7_far_24 : decode cX7_far 24 = .ok (.getfield 25, 3) := by decide +kernel
theorem dX7_far_27 : decode cX7_far 27 = .ok (.aload_n 0, 1) := by decide +kernel
theorem dX7_far_28 : decode cX7_far 28 = .ok (.getfield 12, 3) := by decide +kernel
theorem dX7_far_31 : decode cX7_far 31 = .ok (.aload_n 0, 1) := by decide +kernel
theorem dX7_far_32 : decode cX7_far 32 = .ok (.getfield 12, 3) := by decide +kernel
theorem dX7_far_35 : decode cX7_far 35 = .ok (.getfield 129, 3) := by decide +kernel
theorem dX7_far_38 : decode cX7_far 38 = .ok (.iload_n 1, 1) := by decide +kernel
theorem dX7_far_39 : decode cX7_far 39 = .ok (.iaload, 1) := by decide +kernel
theorem dX7_far_40 : decode cX7_far 40 = .ok (.iload_n 2, 1) := by decide +kernel
theorem dX7_far_41 : decode cX7_far 41 = .ok (.invokevirtual 188, 3) := by decide +kernel
theorem dX7_far_44 : decode cX7_far 44 = .ok (.invokevirtual 192, 3) := by decide +kernel
theorem dX7_far_47 : decode cX7_far 47 = .ok (.ireturn, 1) := by decide +kernel
theorem dX7_task_0 : decode cX7_task 0 = .ok (.aload_n 0, 1) := by decide +kernel
theorem dX7_task_1 : decode cX7_task 1 = .ok (.iload_n 1, 1) := by decide +kernel
theorem dX7_task_2 : decode cX7_task 2 = .ok (.iload_n 2, 1) := by decide +kernel
theorem dX7_task_3 : decode cX7_task 3 = .ok (.iload_n 3, 1) := by decide +kernel
theorem dX7_task_4 : decode cX7_task 4 = .ok (.invokevirtual 195, 3) := by decide +kernel
theorem dX7_task_7 : decode cX7_task 7 = .ok (.ifCond .ne 10, 3) := by decide +kernel
theorem dX7_task_10 : decode cX7_task 10 = .ok (.aload_n 0, 1) := by decide +kernel
theorem dX7_task_11 : decode cX7_task 11 = .ok (.ldc 55, 2) := by decide +kernel
theorem dX7_task_13 : decode cX7_task 13 = .ok (.invokevirtual 56, 3) := by decide +kernel
theorem dX7_task_16 : decode cX7_task 16 = .ok (.ireturn, 1) := by decide +kernel
theorem dX7_task_17 : decode cX7_task 17 = .ok (.aload_n 0, 1) := by decide +kernel
theorem dX7_task_18 : decode cX7_task 18 = .ok (.aload_n 0, 1) := by decide +kernel
theorem dX7_task_19 : decode cX7_task 19 = .ok (.getfield 25, 3) := by decide +kernel
theorem dX7_task_22 : decode cX7_task 22 = .ok (.aload_n 0, 1) := by decide +kernel
theorem dX7_task_23 : decode cX7_task 23 = .ok (.getfield 12, 3) := by decide +kernel
theorem dX7_task_26 : decode cX7_task 26 = .ok (.iload_n 1, 1) := by decide +kernel
theorem dX7_task_27 : decode cX7_task 27 = .ok (.iload_n 2, 1) := by decide +kernel
theorem dX7_task_28 : decode cX7_task 28 = .ok (.iload_n 3, 1) := by decide +kernel
theorem dX7_task_29 : decode cX7_task 29 = .ok (.invokevirtual 198, 3) := by decide +kernel
theorem dX7_task_32 : decode cX7_task 32 = .ok (.invokevirtual 192, 3) := by decide +kernel
theorem dX7_task_35 : decode cX7_task 35 = .ok (.ireturn, 1) := by decide +kernel
theorem dX7_who_0 : decode cX7_who 0 = .ok (.aload_n 0, 1) := by decide +kernel
theorem dX7_who_1 : decode cX7_who 1 = .ok (.iload_n 1, 1) := by decide +kernel
theorem dX7_who_2 : decode cX7_who 2 = .ok (.invokevirtual 84, 3) := by decide +kernel
theorem dX7_who_5 : decode cX7_who 5 = .ok (.ifCond .eq 10, 3) := by decide +kernel
theorem dX7_who_8 : decode cX7_who 8 = .ok (.iload_n 2, 1) := by decide +kernel
theorem dX7_who_9 : decode cX7_who 9 = .ok (.invokestatic 47, 3) := by decide +kernel
theorem dX7_who_12 : decode cX7_who 12 = .ok (.ifCond .ne 10, 3) := by decide +kernel
theorem dX7_who_15 : decode cX7_who 15 = .ok (.aload_n 0, 1) := by decide +kernel
theorem dX7_who_16 : decode cX7_who 16 = .ok (.ldc 55, 2) := by decide +kernel
theorem dX7_who_18 : decode cX7_who 18 = .ok (.invokevirtual 56, 3) := by decide +kernel
theorem dX7_who_21 : decode cX7_who 21 = .ok (.ireturn, 1) := by decide +kernel
theorem dX7_who_22 : decode cX7_who 22 = .ok (.iconst (-1), 1) := by decide +kernel
theorem dX7_who_23 : decode cX7_who 23 = .ok (.istore_n 3, 1) := by decide +kernel
theorem dX7_who_24 : decode cX7_who 24 = .ok (.iconst (-1), 1) := by decide +kernel
theorem dX7_who_25 : decode cX7_who 25 = .ok (.istore 4, 2) := by decide +kernel
theorem dX7_who_27 : decode cX7_who 27 = .ok (.iconst 0, 1) := by decide +kernel
theorem dX7_who_28 : decode cX7_who 28 = .ok (.istore 5, 2) := by decide +kernel
theorem dX7_who_30 : decode cX7_who 30 = .ok (.iload 5, 2) := by decide +kernel
theorem dX7_who_32 : decode cX7_who 32 = .ok (.aload_n 0, 1) := by decide +kernel
theorem dX7_who_33 : decode cX7_who 33 = .ok (.getfield 12, 3) := by decide +kernel
theorem dX7_who_36 : decode cX7_who 36 = .ok (.getfield 103, 3) := by decide +kernel
theorem dX7_who_39 : decode cX7_who 39 = .ok (.if_icmp .ge 43, 3) := by decide +kernel
theorem dX7_who_42 : decode cX7_who 42 = .ok (.aload_n 0, 1) := by decide +kernel
theorem dX7_who_43 : decode cX7_who 43 = .ok (.getfield 25, 3) := by decide +kernel
theorem dX7_who_46 : decode cX7_who 46 = .ok (.aload_n 0, 1) := by decide +kernel
theorem dX7_who_47 : decode cX7_who 47 = .ok (.getfield 12, 3) := by decide +kernel
theorem dX7_who_50 : decode cX7_who 50 = .ok (.iload 5, 2) := by decide +kernel
theorem dX7_who_52 : decode cX7_who 52 = .ok (.iload_n 1, 1) := by decide +kernel
theorem dX7_who_53 : decode cX7_who 53 = .ok (.iload_n 2, 1) := by decide +kernel
theorem dX7_who_54 : decode cX7_who 54 = .ok (.invokevirtual 198, 3) := by decide +kernel
theorem dX7_who_57 : decode cX7_who 57 = .ok (.istore 6, 2) := by decide +kernel
theorem dX7_who_59 : decode cX7_who 59 = .ok (.iload 6, 2) := by decide +kernel
theorem dX7_who_61 : decode cX7_who 61 = .ok (.iload 4, 2) := by decide +kernel
theorem dX7_who_63 : decode cX7_who 63 = .ok (.invokestatic 202, 3) := by decide +kernel
theorem dX7_who_66 : decode cX7_who 66 = .ok (.ifCond .eq 10, 3) := by decide +kernel
theorem dX7_who_69 : decode cX7_who 69 = .ok (.iload 6, 2) := by decide +kernel
theorem dX7_who_71 : decode cX7_who 71 = .ok (.istore 4, 2) := by decide +kernel
theorem dX7_who_73 : decode cX7_who 73 = .ok (.iload 5, 2) := by decide +kernel
theorem dX7_who_75 : decode cX7_who 75 = .ok (.istore_n 3, 1) := by decide +kernel
theorem dX7_who_76 : decode cX7_who 76 = .ok (.iinc 5 1, 3) := by decide +kernel
theorem dX7_who_79 : decode cX7_who 79 = .ok (.goto (-49), 3) := by decide +kernel
theorem dX7_who_82 : decode cX7_who 82 = .ok (.aload_n 0, 1) := by decide +kernel
theorem dX7_who_83 : decode cX7_who 83 = .ok (.iload_n 3, 1) := by decide +kernel
theorem dX7_who_84 : decode cX7_who 84 = .ok (.invokevirtual 192, 3) := by decide +kernel
theorem dX7_who_87 : decode cX7_who 87 = .ok (.ireturn, 1) := by decide +kernel
theorem dX7_can_0 : decode cX7_can 0 = .ok (.aload_n 0, 1) := by decide +kernel
theorem dX7_can_1 : decode cX7_can 1 = .ok (.iload_n 1, 1) := by decide +kernel
theorem dX7_can_2 : decode cX7_can 2 = .ok (.invokevirtual 109, 3) := by decide +kernel
theorem dX7_can_5 : decode cX7_can 5 = .ok (.ifCond .eq 11, 3) := by decide +kernel
theorem dX7_can_8 : decode cX7_can 8 = .ok (.aload_n 0, 1) := by decide +kernel
theorem dX7_can_9 : decode cX7_can 9 = .ok (.iload_n 2, 1) := by decide +kernel
theorem dX7_can_10 : decode cX7_can 10 = .ok (.invokevirtual 84, 3) := by decide +kernel
theorem dX7_can_13 : decode cX7_can 13 = .ok (.ifCond .ne 10, 3) := by decide +kernel
theorem dX7_can_16 : decode cX7_can 16 = .ok (.aload_n 0, 1) := by decide +kernel
theorem dX7_can_17 : decode cX7_can 17 = .ok (.ldc 55, 2) := by decide +kernel
theorem dX7_can_19 : decode cX7_can 19 = .ok (.invokevirtual 56, 3) := by decide +kernel
theorem dX7_can_22 : decode cX7_can 22 = .ok (.ireturn, 1) := by decide +kernel
theorem dX7_can_23 : decode cX7_can 23 = .ok (.aload_n 0, 1) := by decide +kernel
theorem dX7_can_24 : decode cX7_can 24 = .ok (.getfield 25, 3) := by decide +kernel
theorem dX7_can_27 : decode cX7_can 27 = .ok (.aload_n 0, 1) := by decide +kernel
theorem dX7_can_28 : decode cX7_can 28 = .ok (.getfield 12, 3) := by decide +kernel
theorem dX7_can_31 : decode cX7_can 31 = .ok (.iload_n 1, 1) := by decide +kernel
theorem dX7_can_32 : decode cX7_can 32 = .ok (.iload_n 2, 1) := by decide +kernel
theorem dX7_can_33 : decode cX7_can 33 = .ok (.iconst 1, 1) := by decide +kernel
theorem dX7_can_34 : decode cX7_can 34 = .ok (.invokevirtual 205, 3) := by decide +kernel
theorem dX7_can_37 : decode cX7_can 37 = .ok (.ireturn, 1) := by decide +kernel
theorem dX7_above_0 : decode cX7_above 0 = .ok (.aload_n 0, 1) := by decide +kernel
theorem dX7_above_1 : decode cX7_above 1 = .ok (.iload_n 1, 1) := by decide +kernel
theorem dX7_above_2 : decode cX7_above 2 = .ok (.invokevirtual 109, 3) := by decide +kernel
theorem dX7_above_5 : decode cX7_above 5 = .ok (.ifCond .eq 11, 3) := by decide +kernel
theorem dX7_above_8 : decode cX7_above 8 = .ok (.aload_n 0, 1) := by decide +kernel
theorem dX7_above_9 : decode cX7_above 9 = .ok (.iload_n 2, 1) := by decide +kernel
theorem dX7_above_10 : decode cX7_above 10 = .ok (.invokevirtual 84, 3) := by decide +kernel
theorem dX7_above_13 : decode cX7_above 13 = .ok (.ifCond .ne 10, 3) := by decide +kernel
theorem dX7_above_16 : decode cX7_above 16 = .ok (.aload_n 0, 1) := by decide +kernel
theorem dX7_above_17 : decode cX7_above 17 = .ok (.ldc 55, 2) := by decide +kernel
theorem dX7_above_19 : decode cX7_above 19 = .ok (.invokevirtual 56, 3) := by decide +kernel
theorem dX7_above_22 : decode cX7_above 22 = .ok (.ireturn, 1) := by decide +kernel
theorem dX7_above_23 : decode cX7_above 23 = .ok (.aload_n 0, 1) := by decide +kernel
theorem dX7_above_24 : decode cX7_above 24 = .ok (.getfield 25, 3) := by decide +kernel
theorem dX7_above_27 : decode cX7_above 27 = .ok (.aload_n 0, 1) := by decide +kernel
theorem dX7_above_28 : decode cX7_above 28 = .ok (.getfield 12, 3) := by decide +kernel
theorem dX7_above_31 : decode cX7_above 31 = .ok (.iload_n 1, 1) := by decide +kernel
theorem dX7_above_32 : decode cX7_above 32 = .ok (.iload_n 2, 1) := by decide +kernel
theorem dX7_above_33 : decode cX7_above 33 = .ok (.iconst 1, 1) := by decide +kernel
theorem dX7_above_34 : decode cX7_above 34 = .ok (.invokevirtual 205, 3) := by decide +kernel
theorem dX7_above_37 : decode cX7_above 37 = .ok (.istore_n 3, 1) := by decide +kernel
theorem dX7_above_38 : decode cX7_above 38 = .ok (.iload_n 3, 1) := by decide +kernel
theorem dX7_above_39 : decode cX7_above 39 = .ok (.aload_n 0, 1) := by decide +kernel
theorem dX7_above_40 : decode cX7_above 40 = .ok (.getfield 25, 3) := by decide +kernel
theorem dX7_above_43 : decode cX7_above 43 = .ok (.aload_n 0, 1) := by decide +kernel
theorem dX7_above_44 : decode cX7_above 44 = .ok (.getfield 12, 3) := by decide +kernel
theorem dX7_above_47 : decode cX7_above 47 = .ok (.iload_n 1, 1) := by decide +kernel
theorem dX7_above_48 : decode cX7_above 48 = .ok (.iload_n 2, 1) := by decide +kernel
theorem dX7_above_49 : decode cX7_above 49 = .ok (.iconst 0, 1) := by decide +kernel
theorem dX7_above_50 : decode cX7_above 50 = .ok (.invokevirtual 205, 3) := by decide +kernel
theorem dX7_above_53 : decode cX7_above 53 = .ok (.iconst (-1), 1) := by decide +kernel
theorem dX7_above_54 : decode cX7_above 54 = .ok (.ixor, 1) := by decide +kernel
theorem dX7_above_55 : decode cX7_above 55 = .ok (.iand, 1) := by decide +kernel
theorem dX7_above_56 : decode cX7_above 56 = .ok (.ireturn, 1) := by decide +kernel
theorem dX7_strong_0 : decode cX7_strong 0 = .ok (.aload_n 0, 1) := by decide +kernel
theorem dX7_strong_1 : decode cX7_strong 1 = .ok (.iload_n 1, 1) := by decide +kernel
theorem dX7_strong_2 : decode cX7_strong 2 = .ok (.iload_n 2, 1) := by decide +kernel
theorem dX7_strong_3 : decode cX7_strong 3 = .ok (.iload_n 3, 1) := by decide +kernel
theorem dX7_strong_4 : decode cX7_strong 4 = .ok (.invokevirtual 195, 3) := by decide +kernel
theorem dX7_strong_7 : decode cX7_strong 7 = .ok (.ifCond .ne 10, 3) := by decide +kernel
theorem dX7_strong_10 : decode cX7_strong 10 = .ok (.aload_n 0, 1) := by decide +kernel
theorem dX7_strong_11 : decode cX7_strong 11 = .ok (.ldc 55, 2) := by decide +kernel
theorem dX7_strong_13 : decode cX7_strong 13 = .ok (.invokevirtual 56, 3) := by decide +kernel
theorem dX7_strong_16 : decode cX7_strong 16 = .ok (.ireturn, 1) := by decide +kernel
theorem dX7_strong_17 : decode cX7_strong 17 = .ok (.aload_n 0, 1) := by decide +kernel
theorem dX7_strong_18 : decode cX7_strong 18 = .ok (.getfield 19, 3) := by decide +kernel
theorem dX7_strong_21 : decode cX7_strong 21 = .ok (.aload_n 0, 1) := by decide +kernel
theorem dX7_strong_22 : decode cX7_strong 22 = .ok (.getfield 12, 3) := by decide +kernel
theorem dX7_strong_25 : decode cX7_strong 25 = .ok (.invokevirtual 209, 3) := by decide +kernel
theorem dX7_strong_28 : decode cX7_strong 28 = .ok (.iconst 0, 1) := by decide +kernel
theorem dX7_strong_29 : decode cX7_strong 29 = .ok (.istore 4, 2) := by decide +kernel
theorem dX7_strong_31 : decode cX7_strong 31 = .ok (.iload 4, 2) := by decide +kernel
theorem dX7_strong_33 : decode cX7_strong 33 = .ok (.bipush 60, 2) := by decide +kernel
theorem dX7_strong_35 : decode cX7_strong 35 = .ok (.if_icmp .gt 59, 3) := by decide +kernel
theorem dX7_strong_38 : decode cX7_strong 38 = .ok (.iload 4, 2) := by decide +kernel
theorem dX7_strong_40 : decode cX7_strong 40 = .ok (.ifCond .eq 16, 3) := by decide +kernel
theorem dX7_strong_43 : decode cX7_strong 43 = .ok (.aload_n 0, 1) := by decide +kernel
theorem dX7_strong_44 : decode cX7_strong 44 = .ok (.getfield 19, 3) := by decide +kernel
theorem dX7_strong_47 : decode cX7_strong 47 = .ok (.iload_n 2, 1) := by decide +kernel
theorem dX7_strong_48 : decode cX7_strong 48 = .ok (.iload 4, 2) := by decide +kernel
theorem dX7_strong_50 : decode cX7_strong 50 = .ok (.invokevirtual 213, 3) := by decide +kernel
theorem dX7_strong_53 : decode cX7_strong 53 = .ok (.ifCond .eq 35, 3) := by decide +kernel
theorem dX7_strong_56 : decode cX7_strong 56 = .ok (.aload_n 0, 1) := by decide +kernel
theorem dX7_strong_57 : decode cX7_strong 57 = .ok (.getfield 19, 3) := by decide +kernel
theorem dX7_strong_60 : decode cX7_strong 60 = .ok (.getfield 216, 3) := by decide +kernel
theorem dX7_strong_63 : decode cX7_strong 63 = .ok (.iload_n 1, 1) := by decide +kernel
theorem dX7_strong_64 : decode cX7_strong 64 = .ok (.iload 4, 2) := by decide +kernel
theorem dX7_strong_66 : decode cX7_strong 66 = .ok (.iastore, 1) := by decide +kernel
theorem dX7_strong_67 : decode cX7_strong 67 = .ok (.aload_n 0, 1) := by decide +kernel
theorem dX7_strong_68 : decode cX7_strong 68 = .ok (.getfield 25, 3) := by decide +kernel
theorem dX7_strong_71 : decode cX7_strong 71 = .ok (.aload_n 0, 1) := by decide +kernel
theorem dX7_strong_72 : decode cX7_strong 72 = .ok (.getfield 19, 3) := by decide +kernel
theorem dX7_strong_75 : decode cX7_strong 75 = .ok (.iload_n 1, 1) := by decide +kernel
theorem dX7_strong_76 : decode cX7_strong 76 = .ok (.iload_n 2, 1) := by decide +kernel
theorem dX7_strong_77 : decode cX7_strong 77 = .ok (.iload_n 3, 1) := by decide +kernel
theorem dX7_strong_78 : decode cX7_strong 78 = .ok (.invokevirtual 198, 3) := by decide +kernel
theorem dX7_strong_81 : decode cX7_strong 81 = .ok (.iconst (-1), 1) := by decide +kernel
theorem dX7_strong_82 : decode cX7_strong 82 = .ok (.if_icmp .eq 6, 3) := by decide +kernel
theorem dX7_strong_85 : decode cX7_strong 85 = .ok (.iload 4, 2) := by decide +kernel
theorem dX7_strong_87 : decode cX7_strong 87 = .ok (.ireturn, 1) := by decide +kernel
theorem dX7_strong_88 : decode cX7_strong 88 = .ok (.iinc 4 1, 3) := by decide +kernel
theorem dX7_strong_91 : decode cX7_strong 91 = .ok (.goto (-60), 3) := by decide +kernel
theorem dX7_strong_94 : decode cX7_strong 94 = .ok (.aload_n 0, 1) := by decide +kernel
theorem dX7_strong_95 : decode cX7_strong 95 = .ok (.ldc 180, 2) := by decide +kernel
theorem dX7_strong_97 : decode cX7_strong 97 = .ok (.invokevirtual 56, 3) := by decide +kernel
theorem dX7_strong_100 : decode cX7_strong 100 = .ok (.ireturn, 1) := by decide +kernel
theorem dX7_kindFor_0 : decode cX7_kindFor 0 = .ok (.aload_n 0, 1) := by decide +kernel
theorem dX7_kindFor_1 : decode cX7_kindFor 1 = .ok (.iload_n 1, 1) := by decide +kernel
theorem dX7_kindFor_2 : decode cX7_kindFor 2 = .ok (.iload_n 2, 1) := by decide +kernel
theorem dX7_kindFor_3 : decode cX7_kindFor 3 = .ok (.iload_n 3, 1) := by decide +kernel
theorem dX7_kindFor_4 : decode cX7_kindFor 4 = .ok (.invokevirtual 195, 3) := by decide +kernel
theorem dX7_kindFor_7 : decode cX7_kindFor 7 = .ok (.ifCond .ne 10, 3) := by decide +kernel
theorem dX7_kindFor_10 : decode cX7_kindFor 10 = .ok (.aload_n 0, 1) := by decide +kernel
theorem dX7_kindFor_11 : decode cX7_kindFor 11 = .ok (.ldc 55, 2) := by decide +kernel
theorem dX7_kindFor_13 : decode cX7_kindFor 13 = .ok (.invokevirtual 56, 3) := by decide +kernel
theorem dX7_kindFor_16 : decode cX7_kindFor 16 = .ok (.ireturn, 1) := by decide +kernel
theorem dX7_kindFor_17 : decode cX7_kindFor 17 = .ok (.aload_n 0, 1) := by decide +kernel
theorem dX7_kindFor_18 : decode cX7_kindFor 18 = .ok (.getfield 19, 3) := by decide +kernel
theorem dX7_kindFor_21 : decode cX7_kindFor 21 = .ok (.aload_n 0, 1) := by decide +kernel
theorem dX7_kindFor_22 : decode cX7_kindFor 22 = .ok (.getfield 12, 3) := by decide +kernel
theorem dX7_kindFor_25 : decode cX7_kindFor 25 = .ok (.invokevirtual 209, 3) := by decide +kernel
theorem dX7_kindFor_28 : decode cX7_kindFor 28 = .ok (.iconst (-1), 1) := by decide +kernel
theorem dX7_kindFor_29 : decode cX7_kindFor 29 = .ok (.istore 4, 2) := by decide +kernel
theorem dX7_kindFor_31 : decode cX7_kindFor 31 = .ok (.iconst (-1), 1) := by decide +kernel
theorem dX7_kindFor_32 : decode cX7_kindFor 32 = .ok (.istore 5, 2) := by decide +kernel
theorem dX7_kindFor_34 : decode cX7_kindFor 34 = .ok (.iconst 0, 1) := by decide +kernel
theorem dX7_kindFor_35 : decode cX7_kindFor 35 = .ok (.istore 6, 2) := by decide +kernel
theorem dX7_kindFor_37 : decode cX7_kindFor 37 = .ok (.iload 6, 2) := by decide +kernel
theorem dX7_kindFor_39 : decode cX7_kindFor 39 = .ok (.bipush 7, 2) := by decide +kernel
theorem dX7_kindFor_41 : decode cX7_kindFor 41 = .ok (.if_icmp .ge 54, 3) := by decide +kernel
theorem dX7_kindFor_44 : decode cX7_kindFor 44 = .ok (.aload_n 0, 1) := by decide +kernel
theorem dX7_kindFor_45 : decode cX7_kindFor 45 = .ok (.getfield 19, 3) := by decide +kernel
theorem dX7_kindFor_48 : decode cX7_kindFor 48 = .ok (.getfield 219, 3) := by decide +kernel
theorem dX7_kindFor_51 : decode cX7_kindFor 51 = .ok (.iload_n 2, 1) := by decide +kernel
theorem dX7_kindFor_52 : decode cX7_kindFor 52 = .ok (.iload 6, 2) := by decide +kernel
theorem dX7_kindFor_54 : decode cX7_kindFor 54 = .ok (.iastore, 1) := by decide +kernel
theorem dX7_kindFor_55 : decode cX7_kindFor 55 = .ok (.aload_n 0, 1) := by decide +kernel
theorem dX7_kindFor_56 : decode cX7_kindFor 56 = .ok (.getfield 25, 3) := by decide +kernel
theorem dX7_kindFor_59 : decode cX7_kindFor 59 = .ok (.aload_n 0, 1) := by decide +kernel
theorem dX7_kindFor_60 : decode cX7_kindFor 60 = .ok (.getfield 19, 3) := by decide +kernel
theorem dX7_kindFor_63 : decode cX7_kindFor 63 = .ok (.iload_n 1, 1) := by decide +kernel
theorem dX7_kindFor_64 : decode cX7_kindFor 64 = .ok (.iload_n 2, 1) := by decide +kernel
theorem dX7_kindFor_65 : decode cX7_kindFor 65 = .ok (.iload_n 3, 1) := by decide +kernel
theorem dX7_kindFor_66 : decode cX7_kindFor 66 = .ok (.invokevirtual 198, 3) := by decide +kernel
theorem dX7_kindFor_69 : decode cX7_kindFor 69 = .ok (.istore 7, 2) := by decide +kernel
theorem dX7_kindFor_71 : decode cX7_kindFor 71 = .ok (.iload 7, 2) := by decide +kernel
theorem dX7_kindFor_73 : decode cX7_kindFor 73 = .ok (.iload 5, 2) := by decide +kernel
theorem dX7_kindFor_75 : decode cX7_kindFor 75 = .ok (.invokestatic 202, 3) := by decide +kernel
theorem dX7_kindFor_78 : decode cX7_kindFor 78 = .ok (.ifCond .eq 11, 3) := by decide +kernel
theorem dX7_kindFor_81 : decode cX7_kindFor 81 = .ok (.iload 7, 2) := by decide +kernel
theorem dX7_kindFor_83 : decode cX7_kindFor 83 = .ok (.istore 5, 2) := by decide +kernel
theorem dX7_kindFor_85 : decode cX7_kindFor 85 = .ok (.iload 6, 2) := by decide +kernel
theorem dX7_kindFor_87 : decode cX7_kindFor 87 = .ok (.istore 4, 2) := by decide +kernel
theorem dX7_kindFor_89 : decode cX7_kindFor 89 = .ok (.iinc 6 1, 3) := by decide +kernel
theorem dX7_kindFor_92 : decode cX7_kindFor 92 = .ok (.goto (-55), 3) := by decide +kernel
theorem dX7_kindFor_95 : decode cX7_kindFor 95 = .ok (.aload_n 0, 1) := by decide +kernel
theorem dX7_kindFor_96 : decode cX7_kindFor 96 = .ok (.iload 4, 2) := by decide +kernel
theorem dX7_kindFor_98 : decode cX7_kindFor 98 = .ok (.invokevirtual 192, 3) := by decide +kernel
theorem dX7_kindFor_101 : decode cX7_kindFor 101 = .ok (.ireturn, 1) := by decide +kernel
theorem dX7_place_0 : decode cX7_place 0 = .ok (.aload_n 0, 1) := by decide +kernel
theorem dX7_place_1 : decode cX7_place 1 = .ok (.iload_n 1, 1) := by decide +kernel
theorem dX7_place_2 : decode cX7_place 2 = .ok (.iload_n 2, 1) := by decide +kernel
theorem dX7_place_3 : decode cX7_place 3 = .ok (.iload_n 3, 1) := by decide +kernel
theorem dX7_place_4 : decode cX7_place 4 = .ok (.invokevirtual 195, 3) := by decide +kernel
theorem dX7_place_7 : decode cX7_place 7 = .ok (.ifCond .ne 10, 3) := by decide +kernel
theorem dX7_place_10 : decode cX7_place 10 = .ok (.aload_n 0, 1) := by decide +kernel
theorem dX7_place_11 : decode cX7_place 11 = .ok (.ldc 55, 2) := by decide +kernel
theorem dX7_place_13 : decode cX7_place 13 = .ok (.invokevirtual 56, 3) := by decide +kernel
theorem dX7_place_16 : decode cX7_place 16 = .ok (.ireturn, 1) := by decide +kernel
theorem dX7_place_17 : decode cX7_place 17 = .ok (.aload_n 0, 1) := by decide +kernel
theorem dX7_place_18 : decode cX7_place 18 = .ok (.getfield 19, 3) := by decide +kernel
theorem dX7_place_21 : decode cX7_place 21 = .ok (.aload_n 0, 1) := by decide +kernel
theorem dX7_place_22 : decode cX7_place 22 = .ok (.getfield 12, 3) := by decide +kernel
theorem dX7_place_25 : decode cX7_place 25 = .ok (.invokevirtual 209, 3) := by decide +kernel
theorem dX7_place_28 : decode cX7_place 28 = .ok (.iconst (-1), 1) := by decide +kernel
theorem dX7_place_29 : decode cX7_place 29 = .ok (.istore 4, 2) := by decide +kernel
theorem dX7_place_31 : decode cX7_place 31 = .ok (.iconst (-1), 1) := by decide +kernel
theorem dX7_place_32 : decode cX7_place 32 = .ok (.istore 5, 2) := by decide +kernel
theorem dX7_place_34 : decode cX7_place 34 = .ok (.iconst 0, 1) := by decide +kernel
theorem dX7_place_35 : decode cX7_place 35 = .ok (.istore 6, 2) := by decide +kernel
theorem dX7_place_37 : decode cX7_place 37 = .ok (.iload 6, 2) := by decide +kernel
theorem dX7_place_39 : decode cX7_place 39 = .ok (.bipush 8, 2) := by decide +kernel
theorem dX7_place_41 : decode cX7_place 41 = .ok (.if_icmp .ge 52, 3) := by decide +kernel
theorem dX7_place_44 : decode cX7_place 44 = .ok (.aload_n 0, 1) := by decide +kernel
theorem dX7_place_45 : decode cX7_place 45 = .ok (.getfield 19, 3) := by decide +kernel
theorem dX7_place_48 : decode cX7_place 48 = .ok (.iload 6, 2) := by decide +kernel
theorem dX7_place_50 : decode cX7_place 50 = .ok (.putfield 165, 3) := by decide +kernel
theorem dX7_place_53 : decode cX7_place 53 = .ok (.aload_n 0, 1) := by decide +kernel
theorem dX7_place_54 : decode cX7_place 54 = .ok (.getfield 25, 3) := by decide +kernel
theorem dX7_place_57 : decode cX7_place 57 = .ok (.aload_n 0, 1) := by decide +kernel
theorem dX7_place_58 : decode cX7_place 58 = .ok (.getfield 19, 3) := by decide +kernel
theorem dX7_place_61 : decode cX7_place 61 = .ok (.iload_n 1, 1) := by decide +kernel
theorem dX7_place_62 : decode cX7_place 62 = .ok (.iload_n 2, 1) := by decide +kernel
theorem dX7_place_63 : decode cX7_place 63 = .ok (.iload_n 3, 1) := by decide +kernel
theorem dX7_place_64 : decode cX7_place 64 = .ok (.invokevirtual 198, 3) := by decide +kernel
theorem dX7_place_67 : decode cX7_place 67 = .ok (.istore 7, 2) := by decide +kernel
theorem dX7_place_69 : decode cX7_place 69 = .ok (.iload 7, 2) := by decide +kernel
theorem dX7_place_71 : decode cX7_place 71 = .ok (.iload 5, 2) := by decide +kernel
theorem dX7_place_73 : decode cX7_place 73 = .ok (.invokestatic 202, 3) := by decide +kernel
theorem dX7_place_76 : decode cX7_place 76 = .ok (.ifCond .eq 11, 3) := by decide +kernel
theorem dX7_place_79 : decode cX7_place 79 = .ok (.iload 7, 2) := by decide +kernel
theorem dX7_place_81 : decode cX7_place 81 = .ok (.istore 5, 2) := by decide +kernel
theorem dX7_place_83 : decode cX7_place 83 = .ok (.iload 6, 2) := by decide +kernel
theorem dX7_place_85 : decode cX7_place 85 = .ok (.istore 4, 2) := by decide +kernel
theorem dX7_place_87 : decode cX7_place 87 = .ok (.iinc 6 1, 3) := by decide +kernel
theorem dX7_place_90 : decode cX7_place 90 = .ok (.goto (-53), 3) := by decide +kernel
theorem dX7_place_93 : decode cX7_place 93 = .ok (.aload_n 0, 1) := by decide +kernel
theorem dX7_place_94 : decode cX7_place 94 = .ok (.iload 4, 2) := by decide +kernel
theorem dX7_place_96 : decode cX7_place 96 = .ok (.invokevirtual 192, 3) := by decide +kernel
theorem dX7_place_99 : decode cX7_place 99 = .ok (.ireturn, 1) := by decide +kernel
theorem dX7_safe_0 : decode cX7_safe 0 = .ok (.iconst 0, 1) := by decide +kernel
theorem dX7_safe_1 : decode cX7_safe 1 = .ok (.istore_n 1, 1) := by decide +kernel
theorem dX7_safe_2 : decode cX7_safe 2 = .ok (.iconst 0, 1) := by decide +kernel
theorem dX7_safe_3 : decode cX7_safe 3 = .ok (.istore_n 2, 1) := by decide +kernel
theorem dX7_safe_4 : decode cX7_safe 4 = .ok (.iload_n 2, 1) := by decide +kernel
theorem dX7_safe_5 : decode cX7_safe 5 = .ok (.aload_n 0, 1) := by decide +kernel
theorem dX7_safe_6 : decode cX7_safe 6 = .ok (.getfield 12, 3) := by decide +kernel
theorem dX7_safe_9 : decode cX7_safe 9 = .ok (.getfield 103, 3) := by decide +kernel
theorem dX7_safe_12 : decode cX7_safe 12 = .ok (.if_icmp .ge 40, 3) := by decide +kernel
theorem dX7_safe_15 : decode cX7_safe 15 = .ok (.iconst 0, 1) := by decide +kernel
theorem dX7_safe_16 : decode cX7_safe 16 = .ok (.istore_n 3, 1) := by decide +kernel
theorem dX7_safe_17 : decode cX7_safe 17 = .ok (.iload_n 3, 1) := by decide +kernel
theorem dX7_safe_18 : decode cX7_safe 18 = .ok (.aload_n 0, 1) := by decide +kernel
theorem dX7_safe_19 : decode cX7_safe 19 = .ok (.getfield 12, 3) := by decide +kernel
theorem dX7_safe_22 : decode cX7_safe 22 = .ok (.getfield 75, 3) := by decide +kernel
theorem dX7_safe_25 : decode cX7_safe 25 = .ok (.if_icmp .ge 21, 3) := by decide +kernel
theorem dX7_safe_28 : decode cX7_safe 28 = .ok (.iload_n 1, 1) := by decide +kernel
theorem dX7_safe_29 : decode cX7_safe 29 = .ok (.aload_n 0, 1) := by decide +kernel
theorem dX7_safe_30 : decode cX7_safe 30 = .ok (.getfield 12, 3) := by decide +kernel
theorem dX7_safe_33 : decode cX7_safe 33 = .ok (.iload_n 2, 1) := by decide +kernel
theorem dX7_safe_34 : decode cX7_safe 34 = .ok (.iload_n 3, 1) := by decide +kernel
theorem dX7_safe_35 : decode cX7_safe 35 = .ok (.invokevirtual 222, 3) := by decide +kernel
theorem dX7_safe_38 : decode cX7_safe 38 = .ok (.ior, 1) := by decide +kernel
theorem dX7_safe_39 : decode cX7_safe 39 = .ok (.istore_n 1, 1) := by decide +kernel
theorem dX7_safe_40 : decode cX7_safe 40 = .ok (.iinc 3 1, 3) := by decide +kernel
theorem dX7_safe_43 : decode cX7_safe 43 = .ok (.goto (-26), 3) := by decide +kernel
theorem dX7_safe_46 : decode cX7_safe 46 = .ok (.iinc 2 1, 3) := by decide +kernel
theorem dX7_safe_49 : decode cX7_safe 49 = .ok (.goto (-45), 3) := by decide +kernel
theorem dX7_safe_52 : decode cX7_safe 52 = .ok (.iload_n 1, 1) := by decide +kernel
theorem dX7_safe_53 : decode cX7_safe 53 = .ok (.iconst (-1), 1) := by decide +kernel
theorem dX7_safe_54 : decode cX7_safe 54 = .ok (.ixor, 1) := by decide +kernel
theorem dX7_safe_55 : decode cX7_safe 55 = .ok (.sipush 255, 3) := by decide +kernel
theorem dX7_safe_58 : decode cX7_safe 58 = .ok (.iand, 1) := by decide +kernel
theorem dX7_safe_59 : decode cX7_safe 59 = .ok (.ireturn, 1) := by decide +kernel
theorem dX7_selves_0 : decode cX7_selves 0 = .ok (.iconst 0, 1) := by decide +kernel
theorem dX7_selves_1 : decode cX7_selves 1 = .ok (.istore_n 1, 1) := by decide +kernel
theorem dX7_selves_2 : decode cX7_selves 2 = .ok (.iconst 0, 1) := by decide +kernel
theorem dX7_selves_3 : decode cX7_selves 3 = .ok (.istore_n 2, 1) := by decide +kernel
theorem dX7_selves_4 : decode cX7_selves 4 = .ok (.iload_n 2, 1) := by decide +kernel
theorem dX7_selves_5 : decode cX7_selves 5 = .ok (.aload_n 0, 1) := by decide +kernel
theorem dX7_selves_6 : decode cX7_selves 6 = .ok (.getfield 12, 3) := by decide +kernel
theorem dX7_selves_9 : decode cX7_selves 9 = .ok (.getfield 103, 3) := by decide +kernel
theorem dX7_selves_12 : decode cX7_selves 12 = .ok (.if_icmp .ge 65, 3) := by decide +kernel
theorem dX7_selves_15 : decode cX7_selves 15 = .ok (.iconst 0, 1) := by decide +kernel
theorem dX7_selves_16 : decode cX7_selves 16 = .ok (.istore_n 3, 1) := by decide +kernel
theorem dX7_selves_17 : decode cX7_selves 17 = .ok (.iload_n 3, 1) := by decide +kernel
theorem dX7_selves_18 : decode cX7_selves 18 = .ok (.aload_n 0, 1) := by decide +kernel
theorem dX7_selves_19 : decode cX7_selves 19 = .ok (.getfield 12, 3) := by decide +kernel
theorem dX7_selves_22 : decode cX7_selves 22 = .ok (.getfield 75, 3) := by decide +kernel
theorem dX7_selves_25 : decode cX7_selves 25 = .ok (.if_icmp .ge 46, 3) := by decide +kernel
theorem dX7_selves_28 : decode cX7_selves 28 = .ok (.aload_n 0, 1) := by decide +kernel
theorem dX7_selves_29 : decode cX7_selves 29 = .ok (.getfield 12, 3) := by decide +kernel
theorem dX7_selves_32 : decode cX7_selves 32 = .ok (.iload_n 2, 1) := by decide +kernel
theorem dX7_selves_33 : decode cX7_selves 33 = .ok (.iload_n 3, 1) := by decide +kernel
theorem dX7_selves_34 : decode cX7_selves 34 = .ok (.invokevirtual 147, 3) := by decide +kernel
theorem dX7_selves_37 : decode cX7_selves 37 = .ok (.ifCond .eq 28, 3) := by decide +kernel
theorem dX7_selves_40 : decode cX7_selves 40 = .ok (.aload_n 0, 1) := by decide +kernel
theorem dX7_selves_41 : decode cX7_selves 41 = .ok (.getfield 12, 3) := by decide +kernel
theorem dX7_selves_44 : decode cX7_selves 44 = .ok (.getfield 150, 3) := by decide +kernel
theorem dX7_selves_47 : decode cX7_selves 47 = .ok (.iload_n 3, 1) := by decide +kernel
theorem dX7_selves_48 : decode cX7_selves 48 = .ok (.iaload, 1) := by decide +kernel
theorem dX7_selves_49 : decode cX7_selves 49 = .ok (.aload_n 0, 1) := by decide +kernel
theorem dX7_selves_50 : decode cX7_selves 50 = .ok (.getfield 12, 3) := by decide +kernel
theorem dX7_selves_53 : decode cX7_selves 53 = .ok (.getfield 165, 3) := by decide +kernel
theorem dX7_selves_56 : decode cX7_selves 56 = .ok (.if_icmp .eq 9, 3) := by decide +kernel
theorem dX7_selves_59 : decode cX7_selves 59 = .ok (.iload_n 1, 1) := by decide +kernel
theorem dX7_selves_60 : decode cX7_selves 60 = .ok (.iconst 1, 1) := by decide +kernel
theorem dX7_selves_61 : decode cX7_selves 61 = .ok (.iload_n 2, 1) := by decide +kernel
theorem dX7_selves_62 : decode cX7_selves 62 = .ok (.ishl, 1) := by decide +kernel
theorem dX7_selves_63 : decode cX7_selves 63 = .ok (.ior, 1) := by decide +kernel
theorem dX7_selves_64 : decode cX7_selves 64 = .ok (.istore_n 1, 1) := by decide +kernel
theorem dX7_selves_65 : decode cX7_selves 65 = .ok (.iinc 3 1, 3) := by decide +kernel
theorem dX7_selves_68 : decode cX7_selves 68 = .ok (.goto (-51), 3) := by decide +kernel
theorem dX7_selves_71 : decode cX7_selves 71 = .ok (.iinc 2 1, 3) := by decide +kernel
theorem dX7_selves_74 : decode cX7_selves 74 = .ok (.goto (-70), 3) := by decide +kernel
theorem dX7_selves_77 : decode cX7_selves 77 = .ok (.iload_n 1, 1) := by decide +kernel
theorem dX7_selves_78 : decode cX7_selves 78 = .ok (.ireturn, 1) := by decide +kernel
theorem dX7_agree_0 : decode cX7_agree 0 = .ok (.aload_n 0, 1) := by decide +kernel
theorem dX7_agree_1 : decode cX7_agree 1 = .ok (.iload_n 1, 1) := by decide +kernel
theorem dX7_agree_2 : decode cX7_agree 2 = .ok (.invokevirtual 109, 3) := by decide +kernel
theorem dX7_agree_5 : decode cX7_agree 5 = .ok (.ifCond .eq 33, 3) := by decide +kernel
theorem dX7_agree_8 : decode cX7_agree 8 = .ok (.aload_n 0, 1) := by decide +kernel
theorem dX7_agree_9 : decode cX7_agree 9 = .ok (.iload_n 3, 1) := by decide +kernel
theorem dX7_agree_10 : decode cX7_agree 10 = .ok (.invokevirtual 109, 3) := by decide +kernel
theorem dX7_agree_13 : decode cX7_agree 13 = .ok (.ifCond .eq 25, 3) := by decide +kernel
theorem dX7_agree_16 : decode cX7_agree 16 = .ok (.iload_n 1, 1) := by decide +kernel
theorem dX7_agree_17 : decode cX7_agree 17 = .ok (.iload_n 3, 1) := by decide +kernel
theorem dX7_agree_18 : decode cX7_agree 18 = .ok (.if_icmp .eq 20, 3) := by decide +kernel
theorem dX7_agree_21 : decode cX7_agree 21 = .ok (.aload_n 0, 1) := by decide +kernel
theorem dX7_agree_22 : decode cX7_agree 22 = .ok (.iload_n 2, 1) := by decide +kernel
theorem dX7_agree_23 : decode cX7_agree 23 = .ok (.invokevirtual 225, 3) := by decide +kernel
theorem dX7_agree_26 : decode cX7_agree 26 = .ok (.ifCond .eq 12, 3) := by decide +kernel
theorem dX7_agree_29 : decode cX7_agree 29 = .ok (.aload_n 0, 1) := by decide +kernel
theorem dX7_agree_30 : decode cX7_agree 30 = .ok (.iload 4, 2) := by decide +kernel
theorem dX7_agree_32 : decode cX7_agree 32 = .ok (.invokevirtual 225, 3) := by decide +kernel
theorem dX7_agree_35 : decode cX7_agree 35 = .ok (.ifCond .ne 10, 3) := by decide +kernel
theorem dX7_agree_38 : decode cX7_agree 38 = .ok (.aload_n 0, 1) := by decide +kernel
theorem dX7_agree_39 : decode cX7_agree 39 = .ok (.ldc 55, 2) := by decide +kernel
theorem dX7_agree_41 : decode cX7_agree 41 = .ok (.invokevirtual 56, 3) := by decide +kernel
theorem dX7_agree_44 : decode cX7_agree 44 = .ok (.ireturn, 1) := by decide +kernel
theorem dX7_agree_45 : decode cX7_agree 45 = .ok (.iload_n 2, 1) := by decide +kernel
theorem dX7_agree_46 : decode cX7_agree 46 = .ok (.bipush 10, 2) := by decide +kernel
theorem dX7_agree_48 : decode cX7_agree 48 = .ok (.irem, 1) := by decide +kernel
theorem dX7_agree_49 : decode cX7_agree 49 = .ok (.istore 5, 2) := by decide +kernel
theorem dX7_agree_51 : decode cX7_agree 51 = .ok (.iload 5, 2) := by decide +kernel
theorem dX7_agree_53 : decode cX7_agree 53 = .ok (.iload 4, 2) := by decide +kernel
theorem dX7_agree_55 : decode cX7_agree 55 = .ok (.bipush 10, 2) := by decide +kernel
theorem dX7_agree_57 : decode cX7_agree 57 = .ok (.irem, 1) := by decide +kernel
theorem dX7_agree_58 : decode cX7_agree 58 = .ok (.if_icmp .eq 5, 3) := by decide +kernel
theorem dX7_agree_61 : decode cX7_agree 61 = .ok (.iconst 1, 1) := by decide +kernel
theorem dX7_agree_62 : decode cX7_agree 62 = .ok (.ireturn, 1) := by decide +kernel
theorem dX7_agree_63 : decode cX7_agree 63 = .ok (.aload_n 0, 1) := by decide +kernel
theorem dX7_agree_64 : decode cX7_agree 64 = .ok (.getfield 12, 3) := by decide +kernel
theorem dX7_agree_67 : decode cX7_agree 67 = .ok (.iload_n 1, 1) := by decide +kernel
theorem dX7_agree_68 : decode cX7_agree 68 = .ok (.iload 5, 2) := by decide +kernel
theorem dX7_agree_70 : decode cX7_agree 70 = .ok (.invokevirtual 147, 3) := by decide +kernel
theorem dX7_agree_73 : decode cX7_agree 73 = .ok (.istore 6, 2) := by decide +kernel
theorem dX7_agree_75 : decode cX7_agree 75 = .ok (.aload_n 0, 1) := by decide +kernel
theorem dX7_agree_76 : decode cX7_agree 76 = .ok (.getfield 12, 3) := by decide +kernel
theorem dX7_agree_79 : decode cX7_agree 79 = .ok (.iload_n 3, 1) := by decide +kernel
theorem dX7_agree_80 : decode cX7_agree 80 = .ok (.iload 5, 2) := by decide +kernel
theorem dX7_agree_82 : decode cX7_agree 82 = .ok (.invokevirtual 147, 3) := by decide +kernel
theorem dX7_agree_85 : decode cX7_agree 85 = .ok (.istore 7, 2) := by decide +kernel
theorem dX7_agree_87 : decode cX7_agree 87 = .ok (.iload 6, 2) := by decide +kernel
theorem dX7_agree_89 : decode cX7_agree 89 = .ok (.ifCond .eq 24, 3) := by decide +kernel
theorem dX7_agree_92 : decode cX7_agree 92 = .ok (.iload 7, 2) := by decide +kernel
theorem dX7_agree_94 : decode cX7_agree 94 = .ok (.ifCond .eq 19, 3) := by decide +kernel
theorem dX7_agree_97 : decode cX7_agree 97 = .ok (.iload_n 2, 1) := by decide +kernel
theorem dX7_agree_98 : decode cX7_agree 98 = .ok (.bipush 10, 2) := by decide +kernel
theorem dX7_agree_100 : decode cX7_agree 100 = .ok (.idiv, 1) := by decide +kernel
theorem dX7_agree_101 : decode cX7_agree 101 = .ok (.iload 4, 2) := by decide +kernel
theorem dX7_agree_103 : decode cX7_agree 103 = .ok (.bipush 10, 2) := by decide +kernel
theorem dX7_agree_105 : decode cX7_agree 105 = .ok (.idiv, 1) := by decide +kernel
theorem dX7_agree_106 : decode cX7_agree 106 = .ok (.if_icmp .eq 7, 3) := by decide +kernel
theorem dX7_agree_109 : decode cX7_agree 109 = .ok (.iconst 0, 1) := by decide +kernel
theorem dX7_agree_110 : decode cX7_agree 110 = .ok (.goto 4, 3) := by decide +kernel
theorem dX7_agree_113 : decode cX7_agree 113 = .ok (.iconst 1, 1) := by decide +kernel
theorem dX7_agree_114 : decode cX7_agree 114 = .ok (.ireturn, 1) := by decide +kernel
theorem dX7_opens_0 : decode cX7_opens 0 = .ok (.aload_n 0, 1) := by decide +kernel
theorem dX7_opens_1 : decode cX7_opens 1 = .ok (.iload_n 1, 1) := by decide +kernel
theorem dX7_opens_2 : decode cX7_opens 2 = .ok (.iload_n 2, 1) := by decide +kernel
theorem dX7_opens_3 : decode cX7_opens 3 = .ok (.iload_n 3, 1) := by decide +kernel
theorem dX7_opens_4 : decode cX7_opens 4 = .ok (.invokevirtual 195, 3) := by decide +kernel
theorem dX7_opens_7 : decode cX7_opens 7 = .ok (.ifCond .ne 10, 3) := by decide +kernel
theorem dX7_opens_10 : decode cX7_opens 10 = .ok (.aload_n 0, 1) := by decide +kernel
theorem dX7_opens_11 : decode cX7_opens 11 = .ok (.ldc 55, 2) := by decide +kernel
theorem dX7_opens_13 : decode cX7_opens 13 = .ok (.invokevirtual 56, 3) := by decide +kernel
theorem dX7_opens_16 : decode cX7_opens 16 = .ok (.ireturn, 1) := by decide +kernel
theorem dX7_opens_17 : decode cX7_opens 17 = .ok (.aload_n 0, 1) := by decide +kernel
theorem dX7_opens_18 : decode cX7_opens 18 = .ok (.getfield 19, 3) := by decide +kernel
theorem dX7_opens_21 : decode cX7_opens 21 = .ok (.aload_n 0, 1) := by decide +kernel
theorem dX7_opens_22 : decode cX7_opens 22 = .ok (.getfield 12, 3) := by decide +kernel
theorem dX7_opens_25 : decode cX7_opens 25 = .ok (.invokevirtual 209, 3) := by decide +kernel
theorem dX7_opens_28 : decode cX7_opens 28 = .ok (.iconst (-1), 1) := by decide +kernel
theorem dX7_opens_29 : decode cX7_opens 29 = .ok (.istore 4, 2) := by decide +kernel
theorem dX7_opens_31 : decode cX7_opens 31 = .ok (.iconst (-1), 1) := by decide +kernel
theorem dX7_opens_32 : decode cX7_opens 32 = .ok (.istore 5, 2) := by decide +kernel
theorem dX7_opens_34 : decode cX7_opens 34 = .ok (.iconst 0, 1) := by decide +kernel
theorem dX7_opens_35 : decode cX7_opens 35 = .ok (.istore 6, 2) := by decide +kernel
theorem dX7_opens_37 : decode cX7_opens 37 = .ok (.iload 6, 2) := by decide +kernel
theorem dX7_opens_39 : decode cX7_opens 39 = .ok (.bipush 8, 2) := by decide +kernel
theorem dX7_opens_41 : decode cX7_opens 41 = .ok (.if_icmp .ge 83, 3) := by decide +kernel
theorem dX7_opens_44 : decode cX7_opens 44 = .ok (.iload 6, 2) := by decide +kernel
theorem dX7_opens_46 : decode cX7_opens 46 = .ok (.iconst 1, 1) := by decide +kernel
theorem dX7_opens_47 : decode cX7_opens 47 = .ok (.iadd, 1) := by decide +kernel
theorem dX7_opens_48 : decode cX7_opens 48 = .ok (.istore 7, 2) := by decide +kernel
theorem dX7_opens_50 : decode cX7_opens 50 = .ok (.iload 7, 2) := by decide +kernel
theorem dX7_opens_52 : decode cX7_opens 52 = .ok (.bipush 8, 2) := by decide +kernel
theorem dX7_opens_54 : decode cX7_opens 54 = .ok (.if_icmp .ge 64, 3) := by decide +kernel
theorem dX7_opens_57 : decode cX7_opens 57 = .ok (.aload_n 0, 1) := by decide +kernel
theorem dX7_opens_58 : decode cX7_opens 58 = .ok (.getfield 12, 3) := by decide +kernel
theorem dX7_opens_61 : decode cX7_opens 61 = .ok (.iload 6, 2) := by decide +kernel
theorem dX7_opens_63 : decode cX7_opens 63 = .ok (.iload 7, 2) := by decide +kernel
theorem dX7_opens_65 : decode cX7_opens 65 = .ok (.invokevirtual 60, 3) := by decide +kernel
theorem dX7_opens_68 : decode cX7_opens 68 = .ok (.ifCond .eq 7, 3) := by decide +kernel
theorem dX7_opens_71 : decode cX7_opens 71 = .ok (.iconst (-1), 1) := by decide +kernel
theorem dX7_opens_72 : decode cX7_opens 72 = .ok (.goto 14, 3) := by decide +kernel
theorem dX7_opens_75 : decode cX7_opens 75 = .ok (.aload_n 0, 1) := by decide +kernel
theorem dX7_opens_76 : decode cX7_opens 76 = .ok (.iload 6, 2) := by decide +kernel
theorem dX7_opens_78 : decode cX7_opens 78 = .ok (.iload 7, 2) := by decide +kernel
theorem dX7_opens_80 : decode cX7_opens 80 = .ok (.iload_n 1, 1) := by decide +kernel
theorem dX7_opens_81 : decode cX7_opens 81 = .ok (.iload_n 2, 1) := by decide +kernel
theorem dX7_opens_82 : decode cX7_opens 82 = .ok (.iload_n 3, 1) := by decide +kernel
theorem dX7_opens_83 : decode cX7_opens 83 = .ok (.invokevirtual 228, 3) := by decide +kernel
theorem dX7_opens_86 : decode cX7_opens 86 = .ok (.istore 8, 2) := by decide +kernel
theorem dX7_opens_88 : decode cX7_opens 88 = .ok (.iload 8, 2) := by decide +kernel
theorem dX7_opens_90 : decode cX7_opens 90 = .ok (.iload 5, 2) := by decide +kernel
theorem dX7_opens_92 : decode cX7_opens 92 = .ok (.invokestatic 202, 3) := by decide +kernel
theorem dX7_opens_95 : decode cX7_opens 95 = .ok (.ifCond .eq 17, 3) := by decide +kernel
theorem dX7_opens_98 : decode cX7_opens 98 = .ok (.iload 8, 2) := by decide +kernel
theorem dX7_opens_100 : decode cX7_opens 100 = .ok (.istore 5, 2) := by decide +kernel
theorem dX7_opens_102 : decode cX7_opens 102 = .ok (.bipush 10, 2) := by decide +kernel
theorem dX7_opens_104 : decode cX7_opens 104 = .ok (.iload 6, 2) := by decide +kernel
theorem dX7_opens_106 : decode cX7_opens 106 = .ok (.imul, 1) := by decide +kernel
theorem dX7_opens_107 : decode cX7_opens 107 = .ok (.iload 7, 2) := by decide +kernel
theorem dX7_opens_109 : decode cX7_opens 109 = .ok (.iadd, 1) := by decide +kernel
theorem dX7_opens_110 : decode cX7_opens 110 = .ok (.istore 4, 2) := by decide +kernel
theorem dX7_opens_112 : decode cX7_opens 112 = .ok (.iinc 7 1, 3) := by decide +kernel
theorem dX7_opens_115 : decode cX7_opens 115 = .ok (.goto (-65), 3) := by decide +kernel
theorem dX7_opens_118 : decode cX7_opens 118 = .ok (.iinc 6 1, 3) := by decide +kernel
theorem dX7_opens_121 : decode cX7_opens 121 = .ok (.goto (-84), 3) := by decide +kernel
theorem dX7_opens_124 : decode cX7_opens 124 = .ok (.aload_n 0, 1) := by decide +kernel
theorem dX7_opens_125 : decode cX7_opens 125 = .ok (.iload 4, 2) := by decide +kernel
theorem dX7_opens_127 : decode cX7_opens 127 = .ok (.invokevirtual 192, 3) := by decide +kernel
theorem dX7_opens_130 : decode cX7_opens 130 = .ok (.ireturn, 1) := by decide +kernel
theorem dX7_copies_0 : decode cX7_copies 0 = .ok (.iload_n 1, 1) := by decide +kernel
theorem dX7_copies_1 : decode cX7_copies 1 = .ok (.iconst 1, 1) := by decide +kernel
theorem dX7_copies_2 : decode cX7_copies 2 = .ok (.bipush 9, 2) := by decide +kernel
theorem dX7_copies_4 : decode cX7_copies 4 = .ok (.invokestatic 51, 3) := by decide +kernel
theorem dX7_copies_7 : decode cX7_copies 7 = .ok (.ifCond .eq 13, 3) := by decide +kernel
theorem dX7_copies_10 : decode cX7_copies 10 = .ok (.iload_n 2, 1) := by decide +kernel
theorem dX7_copies_11 : decode cX7_copies 11 = .ok (.iconst 0, 1) := by decide +kernel
theorem dX7_copies_12 : decode cX7_copies 12 = .ok (.bipush 62, 2) := by decide +kernel
theorem dX7_copies_14 : decode cX7_copies 14 = .ok (.invokestatic 51, 3) := by decide +kernel
theorem dX7_copies_17 : decode cX7_copies 17 = .ok (.ifCond .ne 11, 3) := by decide +kernel
theorem dX7_copies_20 : decode cX7_copies 20 = .ok (.aload_n 0, 1) := by decide +kernel
theorem dX7_copies_21 : decode cX7_copies 21 = .ok (.ldc 55, 2) := by decide +kernel
theorem dX7_copies_23 : decode cX7_copies 23 = .ok (.invokevirtual 56, 3) := by decide +kernel
theorem dX7_copies_26 : decode cX7_copies 26 = .ok (.i2l, 1) := by decide +kernel
theorem dX7_copies_27 : decode cX7_copies 27 = .ok (.lreturn, 1) := by decide +kernel
theorem dX7_copies_28 : decode cX7_copies 28 = .ok (.lconst 1, 1) := by decide +kernel
theorem dX7_copies_29 : decode cX7_copies 29 = .ok (.lstore_n 3, 1) := by decide +kernel
theorem dX7_copies_30 : decode cX7_copies 30 = .ok (.iconst 0, 1) := by decide +kernel
theorem dX7_copies_31 : decode cX7_copies 31 = .ok (.istore 5, 2) := by decide +kernel
theorem dX7_copies_33 : decode cX7_copies 33 = .ok (.iload 5, 2) := by decide +kernel
theorem dX7_copies_35 : decode cX7_copies 35 = .ok (.iload_n 2, 1) := by decide +kernel
theorem dX7_copies_36 : decode cX7_copies 36 = .ok (.if_icmp .ge 33, 3) := by decide +kernel
theorem dX7_copies_39 : decode cX7_copies 39 = .ok (.lload_n 3, 1) := by decide +kernel
theorem dX7_copies_40 : decode cX7_copies 40 = .ok (.ldc2_w 232, 3) := by decide +kernel
theorem dX7_copies_43 : decode cX7_copies 43 = .ok (.iload_n 1, 1) := by decide +kernel
theorem dX7_copies_44 : decode cX7_copies 44 = .ok (.i2l, 1) := by decide +kernel
theorem dX7_copies_45 : decode cX7_copies 45 = .ok (.ldiv, 1) := by decide +kernel
theorem dX7_copies_46 : decode cX7_copies 46 = .ok (.lcmp, 1) := by decide +kernel
theorem dX7_copies_47 : decode cX7_copies 47 = .ok (.ifCond .le 11, 3) := by decide +kernel
theorem dX7_copies_50 : decode cX7_copies 50 = .ok (.aload_n 0, 1) := by decide +kernel
theorem dX7_copies_51 : decode cX7_copies 51 = .ok (.ldc 234, 2) := by decide +kernel
theorem dX7_copies_53 : decode cX7_copies 53 = .ok (.invokevirtual 56, 3) := by decide +kernel
theorem dX7_copies_56 : decode cX7_copies 56 = .ok (.i2l, 1) := by decide +kernel
theorem dX7_copies_57 : decode cX7_copies 57 = .ok (.lreturn, 1) := by decide +kernel
theorem dX7_copies_58 : decode cX7_copies 58 = .ok (.lload_n 3, 1) := by decide +kernel
theorem dX7_copies_59 : decode cX7_copies 59 = .ok (.iload_n 1, 1) := by decide +kernel
theorem dX7_copies_60 : decode cX7_copies 60 = .ok (.i2l, 1) := by decide +kernel
theorem dX7_copies_61 : decode cX7_copies 61 = .ok (.lmul, 1) := by decide +kernel
theorem dX7_copies_62 : decode cX7_copies 62 = .ok (.lstore_n 3, 1) := by decide +kernel
theorem dX7_copies_63 : decode cX7_copies 63 = .ok (.iinc 5 1, 3) := by decide +kernel
theorem dX7_copies_66 : decode cX7_copies 66 = .ok (.goto (-33), 3) := by decide +kernel
theorem dX7_copies_69 : decode cX7_copies 69 = .ok (.lload_n 3, 1) := by decide +kernel
theorem dX7_copies_70 : decode cX7_copies 70 = .ok (.lreturn, 1) := by decide +kernel
theorem dX7_all_0 : decode cX7_all 0 = .ok (.iload_n 1, 1) := by decide +kernel
theorem dX7_all_1 : decode cX7_all 1 = .ok (.iconst 1, 1) := by decide +kernel
theorem dX7_all_2 : decode cX7_all 2 = .ok (.bipush 9, 2) := by decide +kernel
theorem dX7_all_4 : decode cX7_all 4 = .ok (.invokestatic 51, 3) := by decide +kernel
theorem dX7_all_7 : decode cX7_all 7 = .ok (.ifCond .eq 13, 3) := by decide +kernel
theorem dX7_all_10 : decode cX7_all 10 = .ok (.iload_n 2, 1) := by decide +kernel
theorem dX7_all_11 : decode cX7_all 11 = .ok (.iconst 0, 1) := by decide +kernel
theorem dX7_all_12 : decode cX7_all 12 = .ok (.bipush 62, 2) := by decide +kernel
theorem dX7_all_14 : decode cX7_all 14 = .ok (.invokestatic 51, 3) := by decide +kernel
theorem dX7_all_17 : decode cX7_all 17 = .ok (.ifCond .ne 11, 3) := by decide +kernel
theorem dX7_all_20 : decode cX7_all 20 = .ok (.aload_n 0, 1) := by decide +kernel
theorem dX7_all_21 : decode cX7_all 21 = .ok (.ldc 55, 2) := by decide +kernel
theorem dX7_all_23 : decode cX7_all 23 = .ok (.invokevirtual 56, 3) := by decide +kernel
theorem dX7_all_26 : decode cX7_all 26 = .ok (.i2l, 1) := by decide +kernel
theorem dX7_all_27 : decode cX7_all 27 = .ok (.lreturn, 1) := by decide +kernel
theorem dX7_all_28 : decode cX7_all 28 = .ok (.lconst 1, 1) := by decide +kernel
theorem dX7_all_29 : decode cX7_all 29 = .ok (.lstore_n 3, 1) := by decide +kernel
theorem dX7_all_30 : decode cX7_all 30 = .ok (.lconst 1, 1) := by decide +kernel
theorem dX7_all_31 : decode cX7_all 31 = .ok (.lstore 5, 2) := by decide +kernel
theorem dX7_all_33 : decode cX7_all 33 = .ok (.iconst 0, 1) := by decide +kernel
theorem dX7_all_34 : decode cX7_all 34 = .ok (.istore 7, 2) := by decide +kernel
theorem dX7_all_36 : decode cX7_all 36 = .ok (.iload 7, 2) := by decide +kernel
theorem dX7_all_38 : decode cX7_all 38 = .ok (.iload_n 2, 1) := by decide +kernel
theorem dX7_all_39 : decode cX7_all 39 = .ok (.if_icmp .ge 53, 3) := by decide +kernel
theorem dX7_all_42 : decode cX7_all 42 = .ok (.lload_n 3, 1) := by decide +kernel
theorem dX7_all_43 : decode cX7_all 43 = .ok (.ldc2_w 232, 3) := by decide +kernel
theorem dX7_all_46 : decode cX7_all 46 = .ok (.iload_n 1, 1) := by decide +kernel
theorem dX7_all_47 : decode cX7_all 47 = .ok (.i2l, 1) := by decide +kernel
theorem dX7_all_48 : decode cX7_all 48 = .ok (.ldiv, 1) := by decide +kernel
theorem dX7_all_49 : decode cX7_all 49 = .ok (.lcmp, 1) := by decide +kernel
theorem dX7_all_50 : decode cX7_all 50 = .ok (.ifCond .gt 17, 3) := by decide +kernel
theorem dX7_all_53 : decode cX7_all 53 = .ok (.lload 5, 2) := by decide +kernel
theorem dX7_all_55 : decode cX7_all 55 = .ok (.ldc2_w 232, 3) := by decide +kernel
theorem dX7_all_58 : decode cX7_all 58 = .ok (.lload_n 3, 1) := by decide +kernel
theorem dX7_all_59 : decode cX7_all 59 = .ok (.iload_n 1, 1) := by decide +kernel
theorem dX7_all_60 : decode cX7_all 60 = .ok (.i2l, 1) := by decide +kernel
theorem dX7_all_61 : decode cX7_all 61 = .ok (.lmul, 1) := by decide +kernel
theorem dX7_all_62 : decode cX7_all 62 = .ok (.lsub, 1) := by decide +kernel
theorem dX7_all_63 : decode cX7_all 63 = .ok (.lcmp, 1) := by decide +kernel
theorem dX7_all_64 : decode cX7_all 64 = .ok (.ifCond .le 11, 3) := by decide +kernel
theorem dX7_all_67 : decode cX7_all 67 = .ok (.aload_n 0, 1) := by decide +kernel
theorem dX7_all_68 : decode cX7_all 68 = .ok (.ldc 234, 2) := by decide +kernel
theorem dX7_all_70 : decode cX7_all 70 = .ok (.invokevirtual 56, 3) := by decide +kernel
theorem dX7_all_73 : decode cX7_all 73 = .ok (.i2l, 1) := by decide +kernel
theorem dX7_all_74 : decode cX7_all 74 = .ok (.lreturn, 1) := by decide +kernel
theorem dX7_all_75 : decode cX7_all 75 = .ok (.lload_n 3, 1) := by decide +kernel
theorem dX7_all_76 : decode cX7_all 76 = .ok (.iload_n 1, 1) := by decide +kernel
theorem dX7_all_77 : decode cX7_all 77 = .ok (.i2l, 1) := by decide +kernel
theorem dX7_all_78 : decode cX7_all 78 = .ok (.lmul, 1) := by decide +kernel
theorem dX7_all_79 : decode cX7_all 79 = .ok (.lstore_n 3, 1) := by decide +kernel
theorem dX7_all_80 : decode cX7_all 80 = .ok (.lload 5, 2) := by decide +kernel
theorem dX7_all_82 : decode cX7_all 82 = .ok (.lload_n 3, 1) := by decide +kernel
theorem dX7_all_83 : decode cX7_all 83 = .ok (.ladd, 1) := by decide +kernel
theorem dX7_all_84 : decode cX7_all 84 = .ok (.lstore 5, 2) := by decide +kernel
theorem dX7_all_86 : decode cX7_all 86 = .ok (.iinc 7 1, 3) := by decide +kernel
theorem dX7_all_89 : decode cX7_all 89 = .ok (.goto (-53), 3) := by decide +kernel
theorem dX7_all_92 : decode cX7_all 92 = .ok (.lload 5, 2) := by decide +kernel
theorem dX7_all_94 : decode cX7_all 94 = .ok (.lreturn, 1) := by decide +kernel
theorem dX7_weight_0 : decode cX7_weight 0 = .ok (.iload_n 1, 1) := by decide +kernel
theorem dX7_weight_1 : decode cX7_weight 1 = .ok (.iconst 1, 1) := by decide +kernel
theorem dX7_weight_2 : decode cX7_weight 2 = .ok (.bipush 9, 2) := by decide +kernel
theorem dX7_weight_4 : decode cX7_weight 4 = .ok (.invokestatic 51, 3) := by decide +kernel
theorem dX7_weight_7 : decode cX7_weight 7 = .ok (.ifCond .eq 22, 3) := by decide +kernel
theorem dX7_weight_10 : decode cX7_weight 10 = .ok (.iload_n 2, 1) := by decide +kernel
theorem dX7_weight_11 : decode cX7_weight 11 = .ok (.iconst 0, 1) := by decide +kernel
theorem dX7_weight_12 : decode cX7_weight 12 = .ok (.bipush 30, 2) := by decide +kernel
theorem dX7_weight_14 : decode cX7_weight 14 = .ok (.invokestatic 51, 3) := by decide +kernel
theorem dX7_weight_17 : decode cX7_weight 17 = .ok (.ifCond .eq 12, 3) := by decide +kernel
theorem dX7_weight_20 : decode cX7_weight 20 = .ok (.iload_n 3, 1) := by decide +kernel
theorem dX7_weight_21 : decode cX7_weight 21 = .ok (.iconst 0, 1) := by decide +kernel
theorem dX7_weight_22 : decode cX7_weight 22 = .ok (.iconst 1, 1) := by decide +kernel
theorem dX7_weight_23 : decode cX7_weight 23 = .ok (.invokestatic 51, 3) := by decide +kernel
theorem dX7_weight_26 : decode cX7_weight 26 = .ok (.ifCond .ne 11, 3) := by decide +kernel
theorem dX7_weight_29 : decode cX7_weight 29 = .ok (.aload_n 0, 1) := by decide +kernel
theorem dX7_weight_30 : decode cX7_weight 30 = .ok (.ldc 55, 2) := by decide +kernel
theorem dX7_weight_32 : decode cX7_weight 32 = .ok (.invokevirtual 56, 3) := by decide +kernel
theorem dX7_weight_35 : decode cX7_weight 35 = .ok (.i2l, 1) := by decide +kernel
theorem dX7_weight_36 : decode cX7_weight 36 = .ok (.lreturn, 1) := by decide +kernel
theorem dX7_weight_37 : decode cX7_weight 37 = .ok (.iload_n 1, 1) := by decide +kernel
theorem dX7_weight_38 : decode cX7_weight 38 = .ok (.iconst 2, 1) := by decide +kernel
theorem dX7_weight_39 : decode cX7_weight 39 = .ok (.irem, 1) := by decide +kernel
theorem dX7_weight_40 : decode cX7_weight 40 = .ok (.ifCond .ne 10, 3) := by decide +kernel
theorem dX7_weight_43 : decode cX7_weight 43 = .ok (.iload_n 1, 1) := by decide +kernel
theorem dX7_weight_44 : decode cX7_weight 44 = .ok (.iconst 2, 1) := by decide +kernel
theorem dX7_weight_45 : decode cX7_weight 45 = .ok (.idiv, 1) := by decide +kernel
theorem dX7_weight_46 : decode cX7_weight 46 = .ok (.i2l, 1) := by decide +kernel
theorem dX7_weight_47 : decode cX7_weight 47 = .ok (.goto 5, 3) := by decide +kernel
theorem dX7_weight_50 : decode cX7_weight 50 = .ok (.iload_n 1, 1) := by decide +kernel
theorem dX7_weight_51 : decode cX7_weight 51 = .ok (.i2l, 1) := by decide +kernel
theorem dX7_weight_52 : decode cX7_weight 52 = .ok (.lstore 4, 2) := by decide +kernel
theorem dX7_weight_54 : decode cX7_weight 54 = .ok (.iload_n 1, 1) := by decide +kernel
theorem dX7_weight_55 : decode cX7_weight 55 = .ok (.iconst 2, 1) := by decide +kernel
theorem dX7_weight_56 : decode cX7_weight 56 = .ok (.irem, 1) := by decide +kernel
theorem dX7_weight_57 : decode cX7_weight 57 = .ok (.ifCond .ne 7, 3) := by decide +kernel
theorem dX7_weight_60 : decode cX7_weight 60 = .ok (.lconst 1, 1) := by decide +kernel
theorem dX7_weight_61 : decode cX7_weight 61 = .ok (.goto 6, 3) := by decide +kernel
theorem dX7_weight_64 : decode cX7_weight 64 = .ok (.ldc2_w 235, 3) := by decide +kernel
theorem dX7_weight_67 : decode cX7_weight 67 = .ok (.lstore 6, 2) := by decide +kernel
theorem dX7_weight_69 : decode cX7_weight 69 = .ok (.lconst 1, 1) := by decide +kernel
theorem dX7_weight_70 : decode cX7_weight 70 = .ok (.lstore 8, 2) := by decide +kernel
theorem dX7_weight_72 : decode cX7_weight 72 = .ok (.lconst 1, 1) := by decide +kernel
theorem dX7_weight_73 : decode cX7_weight 73 = .ok (.lstore 10, 2) := by decide +kernel
theorem dX7_weight_75 : decode cX7_weight 75 = .ok (.lconst 1, 1) := by decide +kernel
theorem dX7_weight_76 : decode cX7_weight 76 = .ok (.lstore 12, 2) := by decide +kernel
theorem dX7_weight_78 : decode cX7_weight 78 = .ok (.iconst 0, 1) := by decide +kernel
theorem dX7_weight_79 : decode cX7_weight 79 = .ok (.istore 14, 2) := by decide +kernel
theorem dX7_weight_81 : decode cX7_weight 81 = .ok (.iload 14, 2) := by decide +kernel
theorem dX7_weight_83 : decode cX7_weight 83 = .ok (.iload_n 2, 1) := by decide +kernel
theorem dX7_weight_84 : decode cX7_weight 84 = .ok (.if_icmp .ge 59, 3) := by decide +kernel
theorem dX7_weight_87 : decode cX7_weight 87 = .ok (.lload 8, 2) := by decide +kernel
theorem dX7_weight_89 : decode cX7_weight 89 = .ok (.lload 4, 2) := by decide +kernel
theorem dX7_weight_91 : decode cX7_weight 91 = .ok (.lmul, 1) := by decide +kernel
theorem dX7_weight_92 : decode cX7_weight 92 = .ok (.lstore 8, 2) := by decide +kernel
theorem dX7_weight_94 : decode cX7_weight 94 = .ok (.lload 10, 2) := by decide +kernel
theorem dX7_weight_96 : decode cX7_weight 96 = .ok (.lload 6, 2) := by decide +kernel
theorem dX7_weight_98 : decode cX7_weight 98 = .ok (.lmul, 1) := by decide +kernel
theorem dX7_weight_99 : decode cX7_weight 99 = .ok (.lload 8, 2) := by decide +kernel
theorem dX7_weight_101 : decode cX7_weight 101 = .ok (.ladd, 1) := by decide +kernel
theorem dX7_weight_102 : decode cX7_weight 102 = .ok (.lstore 10, 2) := by decide +kernel
theorem dX7_weight_104 : decode cX7_weight 104 = .ok (.lload 12, 2) := by decide +kernel
theorem dX7_weight_106 : decode cX7_weight 106 = .ok (.lload 6, 2) := by decide +kernel
theorem dX7_weight_108 : decode cX7_weight 108 = .ok (.lmul, 1) := by decide +kernel
theorem dX7_weight_109 : decode cX7_weight 109 = .ok (.lstore 12, 2) := by decide +kernel
theorem dX7_weight_111 : decode cX7_weight 111 = .ok (.lload 10, 2) := by decide +kernel
theorem dX7_weight_113 : decode cX7_weight 113 = .ok (.ldc2_w 237, 3) := by decide +kernel
theorem dX7_weight_116 : decode cX7_weight 116 = .ok (.lcmp, 1) := by decide +kernel
theorem dX7_weight_117 : decode cX7_weight 117 = .ok (.ifCond .gt 12, 3) := by decide +kernel
theorem dX7_weight_120 : decode cX7_weight 120 = .ok (.lload 12, 2) := by decide +kernel
theorem dX7_weight_122 : decode cX7_weight 122 = .ok (.ldc2_w 237, 3) := by decide +kernel
theorem dX7_weight_125 : decode cX7_weight 125 = .ok (.lcmp, 1) := by decide +kernel
theorem dX7_weight_126 : decode cX7_weight 126 = .ok (.ifCond .le 11, 3) := by decide +kernel
theorem dX7_weight_129 : decode cX7_weight 129 = .ok (.aload_n 0, 1) := by decide +kernel
theorem dX7_weight_130 : decode cX7_weight 130 = .ok (.ldc 234, 2) := by decide +kernel
theorem dX7_weight_132 : decode cX7_weight 132 = .ok (.invokevirtual 56, 3) := by decide +kernel
theorem dX7_weight_135 : decode cX7_weight 135 = .ok (.i2l, 1) := by decide +kernel
theorem dX7_weight_136 : decode cX7_weight 136 = .ok (.lreturn, 1) := by decide +kernel
theorem dX7_weight_137 : decode cX7_weight 137 = .ok (.iinc 14 1, 3) := by decide +kernel
theorem dX7_weight_140 : decode cX7_weight 140 = .ok (.goto (-59), 3) := by decide +kernel
theorem dX7_weight_143 : decode cX7_weight 143 = .ok (.iload_n 3, 1) := by decide +kernel
theorem dX7_weight_144 : decode cX7_weight 144 = .ok (.ifCond .ne 8, 3) := by decide +kernel
theorem dX7_weight_147 : decode cX7_weight 147 = .ok (.lload 10, 2) := by decide +kernel
theorem dX7_weight_149 : decode cX7_weight 149 = .ok (.goto 5, 3) := by decide +kernel
theorem dX7_weight_152 : decode cX7_weight 152 = .ok (.lload 12, 2) := by decide +kernel
theorem dX7_weight_154 : decode cX7_weight 154 = .ok (.lreturn, 1) := by decide +kernel
