theorem dX8_canWalk_0 : decode cX8_canWalk 0 = .ok (.aload_n 0, 1) := by decide +kernel
theorem dX8_canWalk_1 : decode cX8_canWalk 1 = .ok (.aload_n 0, 1) := by decide +kernel
theorem dX8_canWalk_2 : decode cX8_canWalk 2 = .ok (.iload_n 1, 1) := by decide +kernel
theorem dX8_canWalk_3 : decode cX8_canWalk 3 = .ok (.invokevirtual 109, 3) := by decide +kernel
theorem dX8_canWalk_6 : decode cX8_canWalk 6 = .ok (.iload_n 2, 1) := by decide +kernel
theorem dX8_canWalk_7 : decode cX8_canWalk 7 = .ok (.invokevirtual 77, 3) := by decide +kernel
theorem dX8_canWalk_10 : decode cX8_canWalk 10 = .ok (.ireturn, 1) := by decide +kernel
theorem dX8_goes_0 : decode cX8_goes 0 = .ok (.aload_n 0, 1) := by decide +kernel
theorem dX8_goes_1 : decode cX8_goes 1 = .ok (.getfield 9, 3) := by decide +kernel
theorem dX8_goes_4 : decode cX8_goes 4 = .ok (.bipush 52, 2) := by decide +kernel
theorem dX8_goes_6 : decode cX8_goes 6 = .ok (.iload_n 1, 1) := by decide +kernel
theorem dX8_goes_7 : decode cX8_goes 7 = .ok (.iadd, 1) := by decide +kernel
theorem dX8_goes_8 : decode cX8_goes 8 = .ok (.bipush 8, 2) := by decide +kernel
theorem dX8_goes_10 : decode cX8_goes 10 = .ok (.iload_n 2, 1) := by decide +kernel
theorem dX8_goes_11 : decode cX8_goes 11 = .ok (.imul, 1) := by decide +kernel
theorem dX8_goes_12 : decode cX8_goes 12 = .ok (.iload_n 3, 1) := by decide +kernel
theorem dX8_goes_13 : decode cX8_goes 13 = .ok (.iadd, 1) := by decide +kernel
theorem dX8_goes_14 : decode cX8_goes 14 = .ok (.iastore, 1) := by decide +kernel
theorem dX8_goes_15 : decode cX8_goes 15 = .ok (.return_, 1) := by decide +kernel
theorem dX8_walk_0 : decode cX8_walk 0 = .ok (.aload_n 0, 1) := by decide +kernel
theorem dX8_walk_1 : decode cX8_walk 1 = .ok (.iload_n 1, 1) := by decide +kernel
theorem dX8_walk_2 : decode cX8_walk 2 = .ok (.invokevirtual 106, 3) := by decide +kernel
theorem dX8_walk_5 : decode cX8_walk 5 = .ok (.ifCond .eq 10, 3) := by decide +kernel
theorem dX8_walk_8 : decode cX8_walk 8 = .ok (.iload_n 2, 1) := by decide +kernel
theorem dX8_walk_9 : decode cX8_walk 9 = .ok (.invokestatic 70, 3) := by decide +kernel
theorem dX8_walk_12 : decode cX8_walk 12 = .ok (.ifCond .ne 9, 3) := by decide +kernel
theorem dX8_walk_15 : decode cX8_walk 15 = .ok (.aload_n 0, 1) := by decide +kernel
theorem dX8_walk_16 : decode cX8_walk 16 = .ok (.iconst 0, 1) := by decide +kernel
theorem dX8_walk_17 : decode cX8_walk 17 = .ok (.invokevirtual 74, 3) := by decide +kernel
theorem dX8_walk_20 : decode cX8_walk 20 = .ok (.ireturn, 1) := by decide +kernel
theorem dX8_walk_21 : decode cX8_walk 21 = .ok (.aload_n 0, 1) := by decide +kernel
theorem dX8_walk_22 : decode cX8_walk 22 = .ok (.iload_n 1, 1) := by decide +kernel
theorem dX8_walk_23 : decode cX8_walk 23 = .ok (.iload_n 2, 1) := by decide +kernel
theorem dX8_walk_24 : decode cX8_walk 24 = .ok (.invokevirtual 112, 3) := by decide +kernel
theorem dX8_walk_27 : decode cX8_walk 27 = .ok (.ifCond .ne 9, 3) := by decide +kernel
theorem dX8_walk_30 : decode cX8_walk 30 = .ok (.aload_n 0, 1) := by decide +kernel
theorem dX8_walk_31 : decode cX8_walk 31 = .ok (.iconst 4, 1) := by decide +kernel
theorem dX8_walk_32 : decode cX8_walk 32 = .ok (.invokevirtual 74, 3) := by decide +kernel
theorem dX8_walk_35 : decode cX8_walk 35 = .ok (.ireturn, 1) := by decide +kernel
theorem dX8_walk_36 : decode cX8_walk 36 = .ok (.aload_n 0, 1) := by decide +kernel
theorem dX8_walk_37 : decode cX8_walk 37 = .ok (.iload_n 1, 1) := by decide +kernel
theorem dX8_walk_38 : decode cX8_walk 38 = .ok (.aload_n 0, 1) := by decide +kernel
theorem dX8_walk_39 : decode cX8_walk 39 = .ok (.iload_n 1, 1) := by decide +kernel
theorem dX8_walk_40 : decode cX8_walk 40 = .ok (.invokevirtual 115, 3) := by decide +kernel
theorem dX8_walk_43 : decode cX8_walk 43 = .ok (.iload_n 2, 1) := by decide +kernel
theorem dX8_walk_44 : decode cX8_walk 44 = .ok (.invokevirtual 118, 3) := by decide +kernel
theorem dX8_walk_47 : decode cX8_walk 47 = .ok (.aload_n 0, 1) := by decide +kernel
theorem dX8_walk_48 : decode cX8_walk 48 = .ok (.getfield 9, 3) := by decide +kernel
theorem dX8_walk_51 : decode cX8_walk 51 = .ok (.bipush 52, 2) := by decide +kernel
theorem dX8_walk_53 : decode cX8_walk 53 = .ok (.iload_n 1, 1) := by decide +kernel
theorem dX8_walk_54 : decode cX8_walk 54 = .ok (.iadd, 1) := by decide +kernel
theorem dX8_walk_55 : decode cX8_walk 55 = .ok (.iaload, 1) := by decide +kernel
theorem dX8_walk_56 : decode cX8_walk 56 = .ok (.ireturn, 1) := by decide +kernel
theorem dX8_isBefore_0 : decode cX8_isBefore 0 = .ok (.aload_n 0, 1) := by decide +kernel
theorem dX8_isBefore_1 : decode cX8_isBefore 1 = .ok (.iload_n 1, 1) := by decide +kernel
theorem dX8_isBefore_2 : decode cX8_isBefore 2 = .ok (.invokevirtual 109, 3) := by decide +kernel
theorem dX8_isBefore_5 : decode cX8_isBefore 5 = .ok (.aload_n 0, 1) := by decide +kernel
theorem dX8_isBefore_6 : decode cX8_isBefore 6 = .ok (.getfield 9, 3) := by decide +kernel
theorem dX8_isBefore_9 : decode cX8_isBefore 9 = .ok (.bipush 8, 2) := by decide +kernel
theorem dX8_isBefore_11 : decode cX8_isBefore 11 = .ok (.iaload, 1) := by decide +kernel
theorem dX8_isBefore_12 : decode cX8_isBefore 12 = .ok (.if_icmp .ne 16, 3) := by decide +kernel
theorem dX8_isBefore_15 : decode cX8_isBefore 15 = .ok (.aload_n 0, 1) := by decide +kernel
theorem dX8_isBefore_16 : decode cX8_isBefore 16 = .ok (.iload_n 1, 1) := by decide +kernel
theorem dX8_isBefore_17 : decode cX8_isBefore 17 = .ok (.invokevirtual 115, 3) := by decide +kernel
theorem dX8_isBefore_20 : decode cX8_isBefore 20 = .ok (.iconst 4, 1) := by decide +kernel
theorem dX8_isBefore_21 : decode cX8_isBefore 21 = .ok (.if_icmp .ge 7, 3) := by decide +kernel
theorem dX8_isBefore_24 : decode cX8_isBefore 24 = .ok (.iconst 1, 1) := by decide +kernel
theorem dX8_isBefore_25 : decode cX8_isBefore 25 = .ok (.goto 4, 3) := by decide +kernel
theorem dX8_isBefore_28 : decode cX8_isBefore 28 = .ok (.iconst 0, 1) := by decide +kernel
theorem dX8_isBefore_29 : decode cX8_isBefore 29 = .ok (.ireturn, 1) := by decide +kernel
theorem dX8_in_0 : decode cX8_in 0 = .ok (.aload_n 0, 1) := by decide +kernel
theorem dX8_in_1 : decode cX8_in 1 = .ok (.iload_n 1, 1) := by decide +kernel
theorem dX8_in_2 : decode cX8_in 2 = .ok (.invokevirtual 106, 3) := by decide +kernel
theorem dX8_in_5 : decode cX8_in 5 = .ok (.ifCond .ne 9, 3) := by decide +kernel
theorem dX8_in_8 : decode cX8_in 8 = .ok (.aload_n 0, 1) := by decide +kernel
theorem dX8_in_9 : decode cX8_in 9 = .ok (.iconst 0, 1) := by decide +kernel
theorem dX8_in_10 : decode cX8_in 10 = .ok (.invokevirtual 74, 3) := by decide +kernel
theorem dX8_in_13 : decode cX8_in 13 = .ok (.ireturn, 1) := by decide +kernel
theorem dX8_in_14 : decode cX8_in 14 = .ok (.aload_n 0, 1) := by decide +kernel
theorem dX8_in_15 : decode cX8_in 15 = .ok (.iload_n 1, 1) := by decide +kernel
theorem dX8_in_16 : decode cX8_in 16 = .ok (.invokevirtual 121, 3) := by decide +kernel
theorem dX8_in_19 : decode cX8_in 19 = .ok (.ifCond .ne 9, 3) := by decide +kernel
theorem dX8_in_22 : decode cX8_in 22 = .ok (.aload_n 0, 1) := by decide +kernel
theorem dX8_in_23 : decode cX8_in 23 = .ok (.iconst 4, 1) := by decide +kernel
theorem dX8_in_24 : decode cX8_in 24 = .ok (.invokevirtual 74, 3) := by decide +kernel
theorem dX8_in_27 : decode cX8_in 27 = .ok (.ireturn, 1) := by decide +kernel
theorem dX8_in_28 : decode cX8_in 28 = .ok (.aload_n 0, 1) := by decide +kernel
theorem dX8_in_29 : decode cX8_in 29 = .ok (.iload_n 1, 1) := by decide +kernel
theorem dX8_in_30 : decode cX8_in 30 = .ok (.aload_n 0, 1) := by decide +kernel
theorem dX8_in_31 : decode cX8_in 31 = .ok (.iload_n 1, 1) := by decide +kernel
theorem dX8_in_32 : decode cX8_in 32 = .ok (.invokevirtual 115, 3) := by decide +kernel
theorem dX8_in_35 : decode cX8_in 35 = .ok (.iconst 1, 1) := by decide +kernel
theorem dX8_in_36 : decode cX8_in 36 = .ok (.iadd, 1) := by decide +kernel
theorem dX8_in_37 : decode cX8_in 37 = .ok (.aload_n 0, 1) := by decide +kernel
theorem dX8_in_38 : decode cX8_in 38 = .ok (.getfield 9, 3) := by decide +kernel
theorem dX8_in_41 : decode cX8_in 41 = .ok (.bipush 9, 2) := by decide +kernel
theorem dX8_in_43 : decode cX8_in 43 = .ok (.iaload, 1) := by decide +kernel
theorem dX8_in_44 : decode cX8_in 44 = .ok (.invokevirtual 118, 3) := by decide +kernel
theorem dX8_in_47 : decode cX8_in 47 = .ok (.aload_n 0, 1) := by decide +kernel
theorem dX8_in_48 : decode cX8_in 48 = .ok (.getfield 9, 3) := by decide +kernel
theorem dX8_in_51 : decode cX8_in 51 = .ok (.bipush 52, 2) := by decide +kernel
theorem dX8_in_53 : decode cX8_in 53 = .ok (.iload_n 1, 1) := by decide +kernel
theorem dX8_in_54 : decode cX8_in 54 = .ok (.iadd, 1) := by decide +kernel
theorem dX8_in_55 : decode cX8_in 55 = .ok (.iaload, 1) := by decide +kernel
theorem dX8_in_56 : decode cX8_in 56 = .ok (.ireturn, 1) := by decide +kernel
theorem dX8_out_0 : decode cX8_out 0 = .ok (.aload_n 0, 1) := by decide +kernel
theorem dX8_out_1 : decode cX8_out 1 = .ok (.iload_n 1, 1) := by decide +kernel
theorem dX8_out_2 : decode cX8_out 2 = .ok (.invokevirtual 106, 3) := by decide +kernel
theorem dX8_out_5 : decode cX8_out 5 = .ok (.ifCond .ne 9, 3) := by decide +kernel
theorem dX8_out_8 : decode cX8_out 8 = .ok (.aload_n 0, 1) := by decide +kernel
theorem dX8_out_9 : decode cX8_out 9 = .ok (.iconst 0, 1) := by decide +kernel
theorem dX8_out_10 : decode cX8_out 10 = .ok (.invokevirtual 74, 3) := by decide +kernel
theorem dX8_out_13 : decode cX8_out 13 = .ok (.ireturn, 1) := by decide +kernel
theorem dX8_out_14 : decode cX8_out 14 = .ok (.aload_n 0, 1) := by decide +kernel
theorem dX8_out_15 : decode cX8_out 15 = .ok (.iload_n 1, 1) := by decide +kernel
theorem dX8_out_16 : decode cX8_out 16 = .ok (.invokevirtual 109, 3) := by decide +kernel
theorem dX8_out_19 : decode cX8_out 19 = .ok (.aload_n 0, 1) := by decide +kernel
theorem dX8_out_20 : decode cX8_out 20 = .ok (.getfield 9, 3) := by decide +kernel
theorem dX8_out_23 : decode cX8_out 23 = .ok (.bipush 9, 2) := by decide +kernel
theorem dX8_out_25 : decode cX8_out 25 = .ok (.iaload, 1) := by decide +kernel
theorem dX8_out_26 : decode cX8_out 26 = .ok (.if_icmp .ne 11, 3) := by decide +kernel
theorem dX8_out_29 : decode cX8_out 29 = .ok (.aload_n 0, 1) := by decide +kernel
theorem dX8_out_30 : decode cX8_out 30 = .ok (.iload_n 1, 1) := by decide +kernel
theorem dX8_out_31 : decode cX8_out 31 = .ok (.invokevirtual 115, 3) := by decide +kernel
theorem dX8_out_34 : decode cX8_out 34 = .ok (.ifCond .ne 9, 3) := by decide +kernel
theorem dX8_out_37 : decode cX8_out 37 = .ok (.aload_n 0, 1) := by decide +kernel
theorem dX8_out_38 : decode cX8_out 38 = .ok (.iconst 4, 1) := by decide +kernel
theorem dX8_out_39 : decode cX8_out 39 = .ok (.invokevirtual 74, 3) := by decide +kernel
theorem dX8_out_42 : decode cX8_out 42 = .ok (.ireturn, 1) := by decide +kernel
theorem dX8_out_43 : decode cX8_out 43 = .ok (.aload_n 0, 1) := by decide +kernel
theorem dX8_out_44 : decode cX8_out 44 = .ok (.iload_n 1, 1) := by decide +kernel
theorem dX8_out_45 : decode cX8_out 45 = .ok (.aload_n 0, 1) := by decide +kernel
theorem dX8_out_46 : decode cX8_out 46 = .ok (.iload_n 1, 1) := by decide +kernel
theorem dX8_out_47 : decode cX8_out 47 = .ok (.invokevirtual 115, 3) := by decide +kernel
theorem dX8_out_50 : decode cX8_out 50 = .ok (.iconst 1, 1) := by decide +kernel
theorem dX8_out_51 : decode cX8_out 51 = .ok (.isub, 1) := by decide +kernel
theorem dX8_out_52 : decode cX8_out 52 = .ok (.aload_n 0, 1) := by decide +kernel
theorem dX8_out_53 : decode cX8_out 53 = .ok (.getfield 9, 3) := by decide +kernel
theorem dX8_out_56 : decode cX8_out 56 = .ok (.bipush 8, 2) := by decide +kernel
theorem dX8_out_58 : decode cX8_out 58 = .ok (.iaload, 1) := by decide +kernel
theorem dX8_out_59 : decode cX8_out 59 = .ok (.invokevirtual 118, 3) := by decide +kernel
theorem dX8_out_62 : decode cX8_out 62 = .ok (.aload_n 0, 1) := by decide +kernel
theorem dX8_out_63 : decode cX8_out 63 = .ok (.getfield 9, 3) := by decide +kernel
theorem dX8_out_66 : decode cX8_out 66 = .ok (.bipush 52, 2) := by decide +kernel
theorem dX8_out_68 : decode cX8_out 68 = .ok (.iload_n 1, 1) := by decide +kernel
theorem dX8_out_69 : decode cX8_out 69 = .ok (.iadd, 1) := by decide +kernel
theorem dX8_out_70 : decode cX8_out 70 = .ok (.iaload, 1) := by decide +kernel
theorem dX8_out_71 : decode cX8_out 71 = .ok (.ireturn, 1) := by decide +kernel
theorem dX8_canCarry_0 : decode cX8_canCarry 0 = .ok (.aload_n 0, 1) := by decide +kernel
theorem dX8_canCarry_1 : decode cX8_canCarry 1 = .ok (.getfield 9, 3) := by decide +kernel
theorem dX8_canCarry_4 : decode cX8_canCarry 4 = .ok (.bipush 36, 2) := by decide +kernel
theorem dX8_canCarry_6 : decode cX8_canCarry 6 = .ok (.iload_n 2, 1) := by decide +kernel
theorem dX8_canCarry_7 : decode cX8_canCarry 7 = .ok (.iadd, 1) := by decide +kernel
theorem dX8_canCarry_8 : decode cX8_canCarry 8 = .ok (.iaload, 1) := by decide +kernel
theorem dX8_canCarry_9 : decode cX8_canCarry 9 = .ok (.aload_n 0, 1) := by decide +kernel
theorem dX8_canCarry_10 : decode cX8_canCarry 10 = .ok (.iload_n 1, 1) := by decide +kernel
theorem dX8_canCarry_11 : decode cX8_canCarry 11 = .ok (.invokevirtual 109, 3) := by decide +kernel
theorem dX8_canCarry_14 : decode cX8_canCarry 14 = .ok (.if_icmp .ne 38, 3) := by decide +kernel
theorem dX8_canCarry_17 : decode cX8_canCarry 17 = .ok (.aload_n 0, 1) := by decide +kernel
theorem dX8_canCarry_18 : decode cX8_canCarry 18 = .ok (.iload_n 1, 1) := by decide +kernel
theorem dX8_canCarry_19 : decode cX8_canCarry 19 = .ok (.iload_n 3, 1) := by decide +kernel
theorem dX8_canCarry_20 : decode cX8_canCarry 20 = .ok (.invokevirtual 112, 3) := by decide +kernel
theorem dX8_canCarry_23 : decode cX8_canCarry 23 = .ok (.ifCond .eq 29, 3) := by decide +kernel
theorem dX8_canCarry_26 : decode cX8_canCarry 26 = .ok (.aload_n 0, 1) := by decide +kernel
theorem dX8_canCarry_27 : decode cX8_canCarry 27 = .ok (.iload_n 2, 1) := by decide +kernel
theorem dX8_canCarry_28 : decode cX8_canCarry 28 = .ok (.aload_n 0, 1) := by decide +kernel
theorem dX8_canCarry_29 : decode cX8_canCarry 29 = .ok (.iload_n 1, 1) := by decide +kernel
theorem dX8_canCarry_30 : decode cX8_canCarry 30 = .ok (.invokevirtual 115, 3) := by decide +kernel
theorem dX8_canCarry_33 : decode cX8_canCarry 33 = .ok (.invokevirtual 93, 3) := by decide +kernel
theorem dX8_canCarry_36 : decode cX8_canCarry 36 = .ok (.aload_n 0, 1) := by decide +kernel
theorem dX8_canCarry_37 : decode cX8_canCarry 37 = .ok (.getfield 9, 3) := by decide +kernel
theorem dX8_canCarry_40 : decode cX8_canCarry 40 = .ok (.bipush 56, 2) := by decide +kernel
theorem dX8_canCarry_42 : decode cX8_canCarry 42 = .ok (.iload_n 1, 1) := by decide +kernel
theorem dX8_canCarry_43 : decode cX8_canCarry 43 = .ok (.iadd, 1) := by decide +kernel
theorem dX8_canCarry_44 : decode cX8_canCarry 44 = .ok (.iaload, 1) := by decide +kernel
theorem dX8_canCarry_45 : decode cX8_canCarry 45 = .ok (.if_icmp .gt 7, 3) := by decide +kernel
theorem dX8_canCarry_48 : decode cX8_canCarry 48 = .ok (.iconst 1, 1) := by decide +kernel
theorem dX8_canCarry_49 : decode cX8_canCarry 49 = .ok (.goto 4, 3) := by decide +kernel
theorem dX8_canCarry_52 : decode cX8_canCarry 52 = .ok (.iconst 0, 1) := by decide +kernel
theorem dX8_canCarry_53 : decode cX8_canCarry 53 = .ok (.ireturn, 1) := by decide +kernel
theorem dX8_canReach_0 : decode cX8_canReach 0 = .ok (.aload_n 0, 1) := by decide +kernel
theorem dX8_canReach_1 : decode cX8_canReach 1 = .ok (.iload_n 1, 1) := by decide +kernel
theorem dX8_canReach_2 : decode cX8_canReach 2 = .ok (.invokevirtual 121, 3) := by decide +kernel
theorem dX8_canReach_5 : decode cX8_canReach 5 = .ok (.ifCond .eq 44, 3) := by decide +kernel
theorem dX8_canReach_8 : decode cX8_canReach 8 = .ok (.aload_n 0, 1) := by decide +kernel
theorem dX8_canReach_9 : decode cX8_canReach 9 = .ok (.getfield 9, 3) := by decide +kernel
theorem dX8_canReach_12 : decode cX8_canReach 12 = .ok (.bipush 36, 2) := by decide +kernel
theorem dX8_canReach_14 : decode cX8_canReach 14 = .ok (.iload_n 2, 1) := by decide +kernel
theorem dX8_canReach_15 : decode cX8_canReach 15 = .ok (.iadd, 1) := by decide +kernel
theorem dX8_canReach_16 : decode cX8_canReach 16 = .ok (.iaload, 1) := by decide +kernel
theorem dX8_canReach_17 : decode cX8_canReach 17 = .ok (.iload_n 3, 1) := by decide +kernel
theorem dX8_canReach_18 : decode cX8_canReach 18 = .ok (.if_icmp .eq 31, 3) := by decide +kernel
theorem dX8_canReach_21 : decode cX8_canReach 21 = .ok (.aload_n 0, 1) := by decide +kernel
theorem dX8_canReach_22 : decode cX8_canReach 22 = .ok (.iload_n 2, 1) := by decide +kernel
theorem dX8_canReach_23 : decode cX8_canReach 23 = .ok (.aload_n 0, 1) := by decide +kernel
theorem dX8_canReach_24 : decode cX8_canReach 24 = .ok (.iload_n 1, 1) := by decide +kernel
theorem dX8_canReach_25 : decode cX8_canReach 25 = .ok (.invokevirtual 115, 3) := by decide +kernel
theorem dX8_canReach_28 : decode cX8_canReach 28 = .ok (.iconst 1, 1) := by decide +kernel
theorem dX8_canReach_29 : decode cX8_canReach 29 = .ok (.iadd, 1) := by decide +kernel
theorem dX8_canReach_30 : decode cX8_canReach 30 = .ok (.invokevirtual 93, 3) := by decide +kernel
theorem dX8_canReach_33 : decode cX8_canReach 33 = .ok (.aload_n 0, 1) := by decide +kernel
theorem dX8_canReach_34 : decode cX8_canReach 34 = .ok (.getfield 9, 3) := by decide +kernel
theorem dX8_canReach_37 : decode cX8_canReach 37 = .ok (.bipush 56, 2) := by decide +kernel
theorem dX8_canReach_39 : decode cX8_canReach 39 = .ok (.iload_n 1, 1) := by decide +kernel
theorem dX8_canReach_40 : decode cX8_canReach 40 = .ok (.iadd, 1) := by decide +kernel
theorem dX8_canReach_41 : decode cX8_canReach 41 = .ok (.iaload, 1) := by decide +kernel
theorem dX8_canReach_42 : decode cX8_canReach 42 = .ok (.if_icmp .gt 7, 3) := by decide +kernel
theorem dX8_canReach_45 : decode cX8_canReach 45 = .ok (.iconst 1, 1) := by decide +kernel
theorem dX8_canReach_46 : decode cX8_canReach 46 = .ok (.goto 4, 3) := by decide +kernel
theorem dX8_canReach_49 : decode cX8_canReach 49 = .ok (.iconst 0, 1) := by decide +kernel
theorem dX8_canReach_50 : decode cX8_canReach 50 = .ok (.ireturn, 1) := by decide +kernel
theorem dX8_standing_0 : decode cX8_standing 0 = .ok (.iconst 0, 1) := by decide +kernel
theorem dX8_standing_1 : decode cX8_standing 1 = .ok (.istore_n 3, 1) := by decide +kernel
theorem dX8_standing_2 : decode cX8_standing 2 = .ok (.iconst 0, 1) := by decide +kernel
theorem dX8_standing_3 : decode cX8_standing 3 = .ok (.istore 4, 2) := by decide +kernel
theorem dX8_standing_5 : decode cX8_standing 5 = .ok (.iload 4, 2) := by decide +kernel
theorem dX8_standing_7 : decode cX8_standing 7 = .ok (.aload_n 0, 1) := by decide +kernel
theorem dX8_standing_8 : decode cX8_standing 8 = .ok (.getfield 9, 3) := by decide +kernel
theorem dX8_standing_11 : decode cX8_standing 11 = .ok (.bipush 12, 2) := by decide +kernel
theorem dX8_standing_13 : decode cX8_standing 13 = .ok (.iaload, 1) := by decide +kernel
theorem dX8_standing_14 : decode cX8_standing 14 = .ok (.if_icmp .ge 33, 3) := by decide +kernel
theorem dX8_standing_17 : decode cX8_standing 17 = .ok (.iload_n 3, 1) := by decide +kernel
theorem dX8_standing_18 : decode cX8_standing 18 = .ok (.iload 4, 2) := by decide +kernel
theorem dX8_standing_20 : decode cX8_standing 20 = .ok (.iload_n 2, 1) := by decide +kernel
theorem dX8_standing_21 : decode cX8_standing 21 = .ok (.if_icmp .eq 17, 3) := by decide +kernel
theorem dX8_standing_24 : decode cX8_standing 24 = .ok (.aload_n 0, 1) := by decide +kernel
theorem dX8_standing_25 : decode cX8_standing 25 = .ok (.iload 4, 2) := by decide +kernel
theorem dX8_standing_27 : decode cX8_standing 27 = .ok (.invokevirtual 109, 3) := by decide +kernel
theorem dX8_standing_30 : decode cX8_standing 30 = .ok (.iload_n 1, 1) := by decide +kernel
theorem dX8_standing_31 : decode cX8_standing 31 = .ok (.if_icmp .ne 7, 3) := by decide +kernel
theorem dX8_standing_34 : decode cX8_standing 34 = .ok (.iconst 1, 1) := by decide +kernel
theorem dX8_standing_35 : decode cX8_standing 35 = .ok (.goto 4, 3) := by decide +kernel
theorem dX8_standing_38 : decode cX8_standing 38 = .ok (.iconst 0, 1) := by decide +kernel
theorem dX8_standing_39 : decode cX8_standing 39 = .ok (.iadd, 1) := by decide +kernel
theorem dX8_standing_40 : decode cX8_standing 40 = .ok (.istore_n 3, 1) := by decide +kernel
theorem dX8_standing_41 : decode cX8_standing 41 = .ok (.iinc 4 1, 3) := by decide +kernel
theorem dX8_standing_44 : decode cX8_standing 44 = .ok (.goto (-39), 3) := by decide +kernel
theorem dX8_standing_47 : decode cX8_standing 47 = .ok (.iload_n 3, 1) := by decide +kernel
theorem dX8_standing_48 : decode cX8_standing 48 = .ok (.ireturn, 1) := by decide +kernel
theorem dX8_brings_0 : decode cX8_brings 0 = .ok (.bipush 59, 2) := by decide +kernel
theorem dX8_brings_2 : decode cX8_brings 2 = .ok (.istore 5, 2) := by decide +kernel
theorem dX8_brings_4 : decode cX8_brings 4 = .ok (.iload 5, 2) := by decide +kernel
theorem dX8_brings_6 : decode cX8_brings 6 = .ok (.iconst 5, 1) := by decide +kernel
theorem dX8_brings_7 : decode cX8_brings 7 = .ok (.if_icmp .lt 31, 3) := by decide +kernel
theorem dX8_brings_10 : decode cX8_brings 10 = .ok (.aload_n 0, 1) := by decide +kernel
theorem dX8_brings_11 : decode cX8_brings 11 = .ok (.getfield 9, 3) := by decide +kernel
theorem dX8_brings_14 : decode cX8_brings 14 = .ok (.bipush 60, 2) := by decide +kernel
theorem dX8_brings_16 : decode cX8_brings 16 = .ok (.iload 5, 2) := by decide +kernel
theorem dX8_brings_18 : decode cX8_brings 18 = .ok (.iadd, 1) := by decide +kernel
theorem dX8_brings_19 : decode cX8_brings 19 = .ok (.aload_n 0, 1) := by decide +kernel
theorem dX8_brings_20 : decode cX8_brings 20 = .ok (.getfield 9, 3) := by decide +kernel
theorem dX8_brings_23 : decode cX8_brings 23 = .ok (.bipush 60, 2) := by decide +kernel
theorem dX8_brings_25 : decode cX8_brings 25 = .ok (.iload 5, 2) := by decide +kernel
theorem dX8_brings_27 : decode cX8_brings 27 = .ok (.iadd, 1) := by decide +kernel
theorem dX8_brings_28 : decode cX8_brings 28 = .ok (.iconst 5, 1) := by decide +kernel
theorem dX8_brings_29 : decode cX8_brings 29 = .ok (.isub, 1) := by decide +kernel
theorem dX8_brings_30 : decode cX8_brings 30 = .ok (.iaload, 1) := by decide +kernel
theorem dX8_brings_31 : decode cX8_brings 31 = .ok (.iastore, 1) := by decide +kernel
theorem dX8_brings_32 : decode cX8_brings 32 = .ok (.iinc 5 (-1), 3) := by decide +kernel
theorem dX8_brings_35 : decode cX8_brings 35 = .ok (.goto (-31), 3) := by decide +kernel
theorem dX8_brings_38 : decode cX8_brings 38 = .ok (.aload_n 0, 1) := by decide +kernel
theorem dX8_brings_39 : decode cX8_brings 39 = .ok (.getfield 9, 3) := by decide +kernel
theorem dX8_brings_42 : decode cX8_brings 42 = .ok (.bipush 60, 2) := by decide +kernel
theorem dX8_brings_44 : decode cX8_brings 44 = .ok (.iload_n 1, 1) := by decide +kernel
theorem dX8_brings_45 : decode cX8_brings 45 = .ok (.iastore, 1) := by decide +kernel
theorem dX8_brings_46 : decode cX8_brings 46 = .ok (.aload_n 0, 1) := by decide +kernel
theorem dX8_brings_47 : decode cX8_brings 47 = .ok (.getfield 9, 3) := by decide +kernel
theorem dX8_brings_50 : decode cX8_brings 50 = .ok (.bipush 61, 2) := by decide +kernel
theorem dX8_brings_52 : decode cX8_brings 52 = .ok (.iload_n 2, 1) := by decide +kernel
theorem dX8_brings_53 : decode cX8_brings 53 = .ok (.iastore, 1) := by decide +kernel
theorem dX8_brings_54 : decode cX8_brings 54 = .ok (.aload_n 0, 1) := by decide +kernel
theorem dX8_brings_55 : decode cX8_brings 55 = .ok (.getfield 9, 3) := by decide +kernel
theorem dX8_brings_58 : decode cX8_brings 58 = .ok (.bipush 62, 2) := by decide +kernel
theorem dX8_brings_60 : decode cX8_brings 60 = .ok (.aload_n 0, 1) := by decide +kernel
theorem dX8_brings_61 : decode cX8_brings 61 = .ok (.getfield 9, 3) := by decide +kernel
theorem dX8_brings_64 : decode cX8_brings 64 = .ok (.bipush 36, 2) := by decide +kernel
theorem dX8_brings_66 : decode cX8_brings 66 = .ok (.iload_n 2, 1) := by decide +kernel
theorem dX8_brings_67 : decode cX8_brings 67 = .ok (.iadd, 1) := by decide +kernel
theorem dX8_brings_68 : decode cX8_brings 68 = .ok (.iaload, 1) := by decide +kernel
theorem dX8_brings_69 : decode cX8_brings 69 = .ok (.iastore, 1) := by decide +kernel
theorem dX8_brings_70 : decode cX8_brings 70 = .ok (.aload_n 0, 1) := by decide +kernel
theorem dX8_brings_71 : decode cX8_brings 71 = .ok (.getfield 9, 3) := by decide +kernel
theorem dX8_brings_74 : decode cX8_brings 74 = .ok (.bipush 63, 2) := by decide +kernel
theorem dX8_brings_76 : decode cX8_brings 76 = .ok (.iload_n 3, 1) := by decide +kernel
theorem dX8_brings_77 : decode cX8_brings 77 = .ok (.iastore, 1) := by decide +kernel
theorem dX8_brings_78 : decode cX8_brings 78 = .ok (.aload_n 0, 1) := by decide +kernel
theorem dX8_brings_79 : decode cX8_brings 79 = .ok (.getfield 9, 3) := by decide +kernel
theorem dX8_brings_82 : decode cX8_brings 82 = .ok (.bipush 64, 2) := by decide +kernel
theorem dX8_brings_84 : decode cX8_brings 84 = .ok (.iload 4, 2) := by decide +kernel
theorem dX8_brings_86 : decode cX8_brings 86 = .ok (.iastore, 1) := by decide +kernel
theorem dX8_brings_87 : decode cX8_brings 87 = .ok (.aload_n 0, 1) := by decide +kernel
theorem dX8_brings_88 : decode cX8_brings 88 = .ok (.getfield 9, 3) := by decide +kernel
theorem dX8_brings_91 : decode cX8_brings 91 = .ok (.bipush 17, 2) := by decide +kernel
theorem dX8_brings_93 : decode cX8_brings 93 = .ok (.bipush 12, 2) := by decide +kernel
theorem dX8_brings_95 : decode cX8_brings 95 = .ok (.aload_n 0, 1) := by decide +kernel
theorem dX8_brings_96 : decode cX8_brings 96 = .ok (.getfield 9, 3) := by decide +kernel
theorem dX8_brings_99 : decode cX8_brings 99 = .ok (.bipush 17, 2) := by decide +kernel
theorem dX8_brings_101 : decode cX8_brings 101 = .ok (.iaload, 1) := by decide +kernel
theorem dX8_brings_102 : decode cX8_brings 102 = .ok (.iconst 1, 1) := by decide +kernel
theorem dX8_brings_103 : decode cX8_brings 103 = .ok (.iadd, 1) := by decide +kernel
theorem dX8_brings_104 : decode cX8_brings 104 = .ok (.invokestatic 124, 3) := by decide +kernel
theorem dX8_brings_107 : decode cX8_brings 107 = .ok (.iastore, 1) := by decide +kernel
theorem dX8_brings_108 : decode cX8_brings 108 = .ok (.aload_n 0, 1) := by decide +kernel
theorem dX8_brings_109 : decode cX8_brings 109 = .ok (.getfield 9, 3) := by decide +kernel
theorem dX8_brings_112 : decode cX8_brings 112 = .ok (.bipush 36, 2) := by decide +kernel
theorem dX8_brings_114 : decode cX8_brings 114 = .ok (.iload_n 2, 1) := by decide +kernel
theorem dX8_brings_115 : decode cX8_brings 115 = .ok (.iadd, 1) := by decide +kernel
theorem dX8_brings_116 : decode cX8_brings 116 = .ok (.iload_n 3, 1) := by decide +kernel
theorem dX8_brings_117 : decode cX8_brings 117 = .ok (.iastore, 1) := by decide +kernel
theorem dX8_brings_118 : decode cX8_brings 118 = .ok (.aload_n 0, 1) := by decide +kernel
theorem dX8_brings_119 : decode cX8_brings 119 = .ok (.getfield 9, 3) := by decide +kernel
theorem dX8_brings_122 : decode cX8_brings 122 = .ok (.bipush 13, 2) := by decide +kernel
theorem dX8_brings_124 : decode cX8_brings 124 = .ok (.dup2, 1) := by decide +kernel
theorem dX8_brings_125 : decode cX8_brings 125 = .ok (.iaload, 1) := by decide +kernel
theorem dX8_brings_126 : decode cX8_brings 126 = .ok (.iconst 1, 1) := by decide +kernel
theorem dX8_brings_127 : decode cX8_brings 127 = .ok (.iadd, 1) := by decide +kernel
theorem dX8_brings_128 : decode cX8_brings 128 = .ok (.iastore, 1) := by decide +kernel
theorem dX8_brings_129 : decode cX8_brings 129 = .ok (.aload_n 0, 1) := by decide +kernel
theorem dX8_brings_130 : decode cX8_brings 130 = .ok (.getfield 9, 3) := by decide +kernel
theorem dX8_brings_133 : decode cX8_brings 133 = .ok (.bipush 14, 2) := by decide +kernel
theorem dX8_brings_135 : decode cX8_brings 135 = .ok (.dup2, 1) := by decide +kernel
theorem dX8_brings_136 : decode cX8_brings 136 = .ok (.iaload, 1) := by decide +kernel
theorem dX8_brings_137 : decode cX8_brings 137 = .ok (.iload 4, 2) := by decide +kernel
theorem dX8_brings_139 : decode cX8_brings 139 = .ok (.iadd, 1) := by decide +kernel
theorem dX8_brings_140 : decode cX8_brings 140 = .ok (.iastore, 1) := by decide +kernel
theorem dX8_brings_141 : decode cX8_brings 141 = .ok (.iload 4, 2) := by decide +kernel
theorem dX8_brings_143 : decode cX8_brings 143 = .ok (.ireturn, 1) := by decide +kernel
theorem dX8_carry_0 : decode cX8_carry 0 = .ok (.aload_n 0, 1) := by decide +kernel
theorem dX8_carry_1 : decode cX8_carry 1 = .ok (.iload_n 1, 1) := by decide +kernel
theorem dX8_carry_2 : decode cX8_carry 2 = .ok (.invokevirtual 106, 3) := by decide +kernel
theorem dX8_carry_5 : decode cX8_carry 5 = .ok (.ifCond .eq 18, 3) := by decide +kernel
theorem dX8_carry_8 : decode cX8_carry 8 = .ok (.aload_n 0, 1) := by decide +kernel
theorem dX8_carry_9 : decode cX8_carry 9 = .ok (.iload_n 2, 1) := by decide +kernel
theorem dX8_carry_10 : decode cX8_carry 10 = .ok (.invokevirtual 90, 3) := by decide +kernel
theorem dX8_carry_13 : decode cX8_carry 13 = .ok (.ifCond .eq 10, 3) := by decide +kernel
theorem dX8_carry_16 : decode cX8_carry 16 = .ok (.iload_n 3, 1) := by decide +kernel
theorem dX8_carry_17 : decode cX8_carry 17 = .ok (.invokestatic 70, 3) := by decide +kernel
theorem dX8_carry_20 : decode cX8_carry 20 = .ok (.ifCond .ne 9, 3) := by decide +kernel
theorem dX8_carry_23 : decode cX8_carry 23 = .ok (.aload_n 0, 1) := by decide +kernel
theorem dX8_carry_24 : decode cX8_carry 24 = .ok (.iconst 0, 1) := by decide +kernel
theorem dX8_carry_25 : decode cX8_carry 25 = .ok (.invokevirtual 74, 3) := by decide +kernel
theorem dX8_carry_28 : decode cX8_carry 28 = .ok (.ireturn, 1) := by decide +kernel
theorem dX8_carry_29 : decode cX8_carry 29 = .ok (.aload_n 0, 1) := by decide +kernel
theorem dX8_carry_30 : decode cX8_carry 30 = .ok (.iload_n 1, 1) := by decide +kernel
theorem dX8_carry_31 : decode cX8_carry 31 = .ok (.iload_n 2, 1) := by decide +kernel
theorem dX8_carry_32 : decode cX8_carry 32 = .ok (.iload_n 3, 1) := by decide +kernel
theorem dX8_carry_33 : decode cX8_carry 33 = .ok (.invokevirtual 129, 3) := by decide +kernel
theorem dX8_carry_36 : decode cX8_carry 36 = .ok (.ifCond .ne 9, 3) := by decide +kernel
theorem dX8_carry_39 : decode cX8_carry 39 = .ok (.aload_n 0, 1) := by decide +kernel
theorem dX8_carry_40 : decode cX8_carry 40 = .ok (.iconst 4, 1) := by decide +kernel
theorem dX8_carry_41 : decode cX8_carry 41 = .ok (.invokevirtual 74, 3) := by decide +kernel
theorem dX8_carry_44 : decode cX8_carry 44 = .ok (.ireturn, 1) := by decide +kernel
theorem dX8_carry_45 : decode cX8_carry 45 = .ok (.aload_n 0, 1) := by decide +kernel
theorem dX8_carry_46 : decode cX8_carry 46 = .ok (.iload_n 1, 1) := by decide +kernel
theorem dX8_carry_47 : decode cX8_carry 47 = .ok (.iload_n 2, 1) := by decide +kernel
theorem dX8_carry_48 : decode cX8_carry 48 = .ok (.iload_n 3, 1) := by decide +kernel
theorem dX8_carry_49 : decode cX8_carry 49 = .ok (.aload_n 0, 1) := by decide +kernel
theorem dX8_carry_50 : decode cX8_carry 50 = .ok (.iload_n 3, 1) := by decide +kernel
theorem dX8_carry_51 : decode cX8_carry 51 = .ok (.iload_n 1, 1) := by decide +kernel
theorem dX8_carry_52 : decode cX8_carry 52 = .ok (.invokevirtual 133, 3) := by decide +kernel
theorem dX8_carry_55 : decode cX8_carry 55 = .ok (.invokevirtual 136, 3) := by decide +kernel
theorem dX8_carry_58 : decode cX8_carry 58 = .ok (.istore 4, 2) := by decide +kernel
theorem dX8_carry_60 : decode cX8_carry 60 = .ok (.aload_n 0, 1) := by decide +kernel
theorem dX8_carry_61 : decode cX8_carry 61 = .ok (.iload_n 1, 1) := by decide +kernel
theorem dX8_carry_62 : decode cX8_carry 62 = .ok (.aload_n 0, 1) := by decide +kernel
theorem dX8_carry_63 : decode cX8_carry 63 = .ok (.iload_n 1, 1) := by decide +kernel
theorem dX8_carry_64 : decode cX8_carry 64 = .ok (.invokevirtual 115, 3) := by decide +kernel
theorem dX8_carry_67 : decode cX8_carry 67 = .ok (.iload_n 3, 1) := by decide +kernel
theorem dX8_carry_68 : decode cX8_carry 68 = .ok (.invokevirtual 118, 3) := by decide +kernel
theorem dX8_carry_71 : decode cX8_carry 71 = .ok (.iload 4, 2) := by decide +kernel
theorem dX8_carry_73 : decode cX8_carry 73 = .ok (.ireturn, 1) := by decide +kernel
theorem dX8_reach_0 : decode cX8_reach 0 = .ok (.aload_n 0, 1) := by decide +kernel
theorem dX8_reach_1 : decode cX8_reach 1 = .ok (.iload_n 1, 1) := by decide +kernel
theorem dX8_reach_2 : decode cX8_reach 2 = .ok (.invokevirtual 106, 3) := by decide +kernel
theorem dX8_reach_5 : decode cX8_reach 5 = .ok (.ifCond .eq 18, 3) := by decide +kernel
theorem dX8_reach_8 : decode cX8_reach 8 = .ok (.aload_n 0, 1) := by decide +kernel
theorem dX8_reach_9 : decode cX8_reach 9 = .ok (.iload_n 2, 1) := by decide +kernel
theorem dX8_reach_10 : decode cX8_reach 10 = .ok (.invokevirtual 90, 3) := by decide +kernel
theorem dX8_reach_13 : decode cX8_reach 13 = .ok (.ifCond .eq 10, 3) := by decide +kernel
theorem dX8_reach_16 : decode cX8_reach 16 = .ok (.iload_n 3, 1) := by decide +kernel
theorem dX8_reach_17 : decode cX8_reach 17 = .ok (.invokestatic 70, 3) := by decide +kernel
theorem dX8_reach_20 : decode cX8_reach 20 = .ok (.ifCond .ne 9, 3) := by decide +kernel
theorem dX8_reach_23 : decode cX8_reach 23 = .ok (.aload_n 0, 1) := by decide +kernel
theorem dX8_reach_24 : decode cX8_reach 24 = .ok (.iconst 0, 1) := by decide +kernel
theorem dX8_reach_25 : decode cX8_reach 25 = .ok (.invokevirtual 74, 3) := by decide +kernel
theorem dX8_reach_28 : decode cX8_reach 28 = .ok (.ireturn, 1) := by decide +kernel
theorem dX8_reach_29 : decode cX8_reach 29 = .ok (.aload_n 0, 1) := by decide +kernel
theorem dX8_reach_30 : decode cX8_reach 30 = .ok (.iload_n 1, 1) := by decide +kernel
theorem dX8_reach_31 : decode cX8_reach 31 = .ok (.iload_n 2, 1) := by decide +kernel
theorem dX8_reach_32 : decode cX8_reach 32 = .ok (.iload_n 3, 1) := by decide +kernel
theorem dX8_reach_33 : decode cX8_reach 33 = .ok (.invokevirtual 140, 3) := by decide +kernel
theorem dX8_reach_36 : decode cX8_reach 36 = .ok (.ifCond .eq 19, 3) := by decide +kernel
theorem dX8_reach_39 : decode cX8_reach 39 = .ok (.aload_n 0, 1) := by decide +kernel
theorem dX8_reach_40 : decode cX8_reach 40 = .ok (.iload_n 1, 1) := by decide +kernel
theorem dX8_reach_41 : decode cX8_reach 41 = .ok (.iload_n 2, 1) := by decide +kernel
theorem dX8_reach_42 : decode cX8_reach 42 = .ok (.iload_n 3, 1) := by decide +kernel
theorem dX8_reach_43 : decode cX8_reach 43 = .ok (.aload_n 0, 1) := by decide +kernel
theorem dX8_reach_44 : decode cX8_reach 44 = .ok (.iload_n 3, 1) := by decide +kernel
theorem dX8_reach_45 : decode cX8_reach 45 = .ok (.iconst (-1), 1) := by decide +kernel
theorem dX8_reach_46 : decode cX8_reach 46 = .ok (.invokevirtual 133, 3) := by decide +kernel
theorem dX8_reach_49 : decode cX8_reach 49 = .ok (.invokevirtual 136, 3) := by decide +kernel
theorem dX8_reach_52 : decode cX8_reach 52 = .ok (.goto 8, 3) := by decide +kernel
theorem dX8_reach_55 : decode cX8_reach 55 = .ok (.aload_n 0, 1) := by decide +kernel
theorem dX8_reach_56 : decode cX8_reach 56 = .ok (.iconst 4, 1) := by decide +kernel
theorem dX8_reach_57 : decode cX8_reach 57 = .ok (.invokevirtual 74, 3) := by decide +kernel
theorem dX8_reach_60 : decode cX8_reach 60 = .ok (.ireturn, 1) := by decide +kernel
theorem dX8_lift_0 : decode cX8_lift 0 = .ok (.aload_n 0, 1) := by decide +kernel
theorem dX8_lift_1 : decode cX8_lift 1 = .ok (.iload_n 1, 1) := by decide +kernel
theorem dX8_lift_2 : decode cX8_lift 2 = .ok (.invokevirtual 106, 3) := by decide +kernel
theorem dX8_lift_5 : decode cX8_lift 5 = .ok (.ifCond .eq 23, 3) := by decide +kernel
theorem dX8_lift_8 : decode cX8_lift 8 = .ok (.aload_n 0, 1) := by decide +kernel
theorem dX8_lift_9 : decode cX8_lift 9 = .ok (.iload_n 2, 1) := by decide +kernel
theorem dX8_lift_10 : decode cX8_lift 10 = .ok (.invokevirtual 106, 3) := by decide +kernel
theorem dX8_lift_13 : decode cX8_lift 13 = .ok (.ifCond .eq 15, 3) := by decide +kernel
theorem dX8_lift_16 : decode cX8_lift 16 = .ok (.iload_n 1, 1) := by decide +kernel
theorem dX8_lift_17 : decode cX8_lift 17 = .ok (.iload_n 2, 1) := by decide +kernel
theorem dX8_lift_18 : decode cX8_lift 18 = .ok (.if_icmp .eq 10, 3) := by decide +kernel
theorem dX8_lift_21 : decode cX8_lift 21 = .ok (.iload_n 3, 1) := by decide +kernel
theorem dX8_lift_22 : decode cX8_lift 22 = .ok (.invokestatic 70, 3) := by decide +kernel
theorem dX8_lift_25 : decode cX8_lift 25 = .ok (.ifCond .ne 9, 3) := by decide +kernel
theorem dX8_lift_28 : decode cX8_lift 28 = .ok (.aload_n 0, 1) := by decide +kernel
theorem dX8_lift_29 : decode cX8_lift 29 = .ok (.iconst 0, 1) := by decide +kernel
theorem dX8_lift_30 : decode cX8_lift 30 = .ok (.invokevirtual 74, 3) := by decide +kernel
theorem dX8_lift_33 : decode cX8_lift 33 = .ok (.ireturn, 1) := by decide +kernel
theorem dX8_lift_34 : decode cX8_lift 34 = .ok (.aload_n 0, 1) := by decide +kernel
theorem dX8_lift_35 : decode cX8_lift 35 = .ok (.iload_n 1, 1) := by decide +kernel
theorem dX8_lift_36 : decode cX8_lift 36 = .ok (.invokevirtual 121, 3) := by decide +kernel
theorem dX8_lift_39 : decode cX8_lift 39 = .ok (.ifCond .eq 27, 3) := by decide +kernel
theorem dX8_lift_42 : decode cX8_lift 42 = .ok (.aload_n 0, 1) := by decide +kernel
theorem dX8_lift_43 : decode cX8_lift 43 = .ok (.iload_n 2, 1) := by decide +kernel
theorem dX8_lift_44 : decode cX8_lift 44 = .ok (.invokevirtual 115, 3) := by decide +kernel
theorem dX8_lift_47 : decode cX8_lift 47 = .ok (.aload_n 0, 1) := by decide +kernel
theorem dX8_lift_48 : decode cX8_lift 48 = .ok (.iload_n 1, 1) := by decide +kernel
theorem dX8_lift_49 : decode cX8_lift 49 = .ok (.invokevirtual 115, 3) := by decide +kernel
theorem dX8_lift_52 : decode cX8_lift 52 = .ok (.iconst 1, 1) := by decide +kernel
theorem dX8_lift_53 : decode cX8_lift 53 = .ok (.iadd, 1) := by decide +kernel
theorem dX8_lift_54 : decode cX8_lift 54 = .ok (.if_icmp .ne 12, 3) := by decide +kernel
theorem dX8_lift_57 : decode cX8_lift 57 = .ok (.aload_n 0, 1) := by decide +kernel
theorem dX8_lift_58 : decode cX8_lift 58 = .ok (.iload_n 2, 1) := by decide +kernel
theorem dX8_lift_59 : decode cX8_lift 59 = .ok (.invokevirtual 109, 3) := by decide +kernel
theorem dX8_lift_62 : decode cX8_lift 62 = .ok (.iload_n 3, 1) := by decide +kernel
theorem dX8_lift_63 : decode cX8_lift 63 = .ok (.if_icmp .ne 9, 3) := by decide +kernel
theorem dX8_lift_66 : decode cX8_lift 66 = .ok (.aload_n 0, 1) := by decide +kernel
theorem dX8_lift_67 : decode cX8_lift 67 = .ok (.iconst 4, 1) := by decide +kernel
theorem dX8_lift_68 : decode cX8_lift 68 = .ok (.invokevirtual 74, 3) := by decide +kernel
theorem dX8_lift_71 : decode cX8_lift 71 = .ok (.ireturn, 1) := by decide +kernel
theorem dX8_lift_72 : decode cX8_lift 72 = .ok (.aload_n 0, 1) := by decide +kernel
theorem dX8_lift_73 : decode cX8_lift 73 = .ok (.iload_n 2, 1) := by decide +kernel
theorem dX8_lift_74 : decode cX8_lift 74 = .ok (.aload_n 0, 1) := by decide +kernel
theorem dX8_lift_75 : decode cX8_lift 75 = .ok (.iload_n 2, 1) := by decide +kernel
theorem dX8_lift_76 : decode cX8_lift 76 = .ok (.invokevirtual 115, 3) := by decide +kernel
theorem dX8_lift_79 : decode cX8_lift 79 = .ok (.iload_n 3, 1) := by decide +kernel
theorem dX8_lift_80 : decode cX8_lift 80 = .ok (.invokevirtual 118, 3) := by decide +kernel
theorem dX8_lift_83 : decode cX8_lift 83 = .ok (.aload_n 0, 1) := by decide +kernel
theorem dX8_lift_84 : decode cX8_lift 84 = .ok (.getfield 9, 3) := by decide +kernel
theorem dX8_lift_87 : decode cX8_lift 87 = .ok (.bipush 13, 2) := by decide +kernel
theorem dX8_lift_89 : decode cX8_lift 89 = .ok (.dup2, 1) := by decide +kernel
theorem dX8_lift_90 : decode cX8_lift 90 = .ok (.iaload, 1) := by decide +kernel
theorem dX8_lift_91 : decode cX8_lift 91 = .ok (.iconst 1, 1) := by decide +kernel
theorem dX8_lift_92 : decode cX8_lift 92 = .ok (.iadd, 1) := by decide +kernel
theorem dX8_lift_93 : decode cX8_lift 93 = .ok (.iastore, 1) := by decide +kernel
theorem dX8_lift_94 : decode cX8_lift 94 = .ok (.aload_n 0, 1) := by decide +kernel
theorem dX8_lift_95 : decode cX8_lift 95 = .ok (.getfield 9, 3) := by decide +kernel
theorem dX8_lift_98 : decode cX8_lift 98 = .ok (.bipush 13, 2) := by decide +kernel
theorem dX8_lift_100 : decode cX8_lift 100 = .ok (.iaload, 1) := by decide +kernel
theorem dX8_lift_101 : decode cX8_lift 101 = .ok (.ireturn, 1) := by decide +kernel
theorem dX8_now_0 : decode cX8_now 0 = .ok (.iload_n 1, 1) := by decide +kernel
theorem dX8_now_1 : decode cX8_now 1 = .ok (.tableswitch 99 0 6 #[43, 51, 59, 67, 75, 83, 91], 43) := by decide +kernel
theorem dX8_now_44 : decode cX8_now 44 = .ok (.aload_n 0, 1) := by decide +kernel
theorem dX8_now_45 : decode cX8_now 45 = .ok (.getfield 9, 3) := by decide +kernel
theorem dX8_now_48 : decode cX8_now 48 = .ok (.bipush 13, 2) := by decide +kernel
theorem dX8_now_50 : decode cX8_now 50 = .ok (.iaload, 1) := by decide +kernel
theorem dX8_now_51 : decode cX8_now 51 = .ok (.ireturn, 1) := by decide +kernel
theorem dX8_now_52 : decode cX8_now 52 = .ok (.aload_n 0, 1) := by decide +kernel
theorem dX8_now_53 : decode cX8_now 53 = .ok (.getfield 9, 3) := by decide +kernel
theorem dX8_now_56 : decode cX8_now 56 = .ok (.bipush 15, 2) := by decide +kernel
theorem dX8_now_58 : decode cX8_now 58 = .ok (.iaload, 1) := by decide +kernel
theorem dX8_now_59 : decode cX8_now 59 = .ok (.ireturn, 1) := by decide +kernel
theorem dX8_now_60 : decode cX8_now 60 = .ok (.aload_n 0, 1) := by decide +kernel
theorem dX8_now_61 : decode cX8_now 61 = .ok (.getfield 9, 3) := by decide +kernel
theorem dX8_now_64 : decode cX8_now 64 = .ok (.bipush 8, 2) := by decide +kernel
theorem dX8_now_66 : decode cX8_now 66 = .ok (.iaload, 1) := by decide +kernel
theorem dX8_now_67 : decode cX8_now 67 = .ok (.ireturn, 1) := by decide +kernel
theorem dX8_now_68 : decode cX8_now 68 = .ok (.aload_n 0, 1) := by decide +kernel
theorem dX8_now_69 : decode cX8_now 69 = .ok (.getfield 9, 3) := by decide +kernel
theorem dX8_now_72 : decode cX8_now 72 = .ok (.bipush 9, 2) := by decide +kernel
theorem dX8_now_74 : decode cX8_now 74 = .ok (.iaload, 1) := by decide +kernel
theorem dX8_now_75 : decode cX8_now 75 = .ok (.ireturn, 1) := by decide +kernel
theorem dX8_now_76 : decode cX8_now 76 = .ok (.aload_n 0, 1) := by decide +kernel
theorem dX8_now_77 : decode cX8_now 77 = .ok (.getfield 9, 3) := by decide +kernel
theorem dX8_now_80 : decode cX8_now 80 = .ok (.bipush 10, 2) := by decide +kernel
theorem dX8_now_82 : decode cX8_now 82 = .ok (.iaload, 1) := by decide +kernel
theorem dX8_now_83 : decode cX8_now 83 = .ok (.ireturn, 1) := by decide +kernel
theorem dX8_now_84 : decode cX8_now 84 = .ok (.aload_n 0, 1) := by decide +kernel
theorem dX8_now_85 : decode cX8_now 85 = .ok (.getfield 9, 3) := by decide +kernel
theorem dX8_now_88 : decode cX8_now 88 = .ok (.bipush 14, 2) := by decide +kernel
theorem dX8_now_90 : decode cX8_now 90 = .ok (.iaload, 1) := by decide +kernel
theorem dX8_now_91 : decode cX8_now 91 = .ok (.ireturn, 1) := by decide +kernel
theorem dX8_now_92 : decode cX8_now 92 = .ok (.aload_n 0, 1) := by decide +kernel
theorem dX8_now_93 : decode cX8_now 93 = .ok (.getfield 9, 3) := by decide +kernel
theorem dX8_now_96 : decode cX8_now 96 = .ok (.bipush 17, 2) := by decide +kernel
theorem dX8_now_98 : decode cX8_now 98 = .ok (.iaload, 1) := by decide +kernel
theorem dX8_now_99 : decode cX8_now 99 = .ok (.ireturn, 1) := by decide +kernel
theorem dX8_now_100 : decode cX8_now 100 = .ok (.aload_n 0, 1) := by decide +kernel
theorem dX8_now_101 : decode cX8_now 101 = .ok (.iconst 0, 1) := by decide +kernel
theorem dX8_now_102 : decode cX8_now 102 = .ok (.invokevirtual 74, 3) := by decide +kernel
theorem dX8_now_105 : decode cX8_now 105 = .ok (.ireturn, 1) := by decide +kernel
theorem dX8_book_0 : decode cX8_book 0 = .ok (.iload_n 1, 1) := by decide +kernel
theorem dX8_book_1 : decode cX8_book 1 = .ok (.ifCond .lt 15, 3) := by decide +kernel
theorem dX8_book_4 : decode cX8_book 4 = .ok (.iload_n 2, 1) := by decide +kernel
theorem dX8_book_5 : decode cX8_book 5 = .ok (.i2l, 1) := by decide +kernel
theorem dX8_book_6 : decode cX8_book 6 = .ok (.lconst 0, 1) := by decide +kernel
theorem dX8_book_7 : decode cX8_book 7 = .ok (.ldc2_w 143, 3) := by decide +kernel
theorem dX8_book_10 : decode cX8_book 10 = .ok (.invokestatic 54, 3) := by decide +kernel
theorem dX8_book_13 : decode cX8_book 13 = .ok (.ifCond .ne 9, 3) := by decide +kernel
theorem dX8_book_16 : decode cX8_book 16 = .ok (.aload_n 0, 1) := by decide +kernel
theorem dX8_book_17 : decode cX8_book 17 = .ok (.iconst 0, 1) := by decide +kernel
theorem dX8_book_18 : decode cX8_book 18 = .ok (.invokevirtual 74, 3) := by decide +kernel
theorem dX8_book_21 : decode cX8_book 21 = .ok (.ireturn, 1) := by decide +kernel
theorem dX8_book_22 : decode cX8_book 22 = .ok (.iload_n 1, 1) := by decide +kernel
theorem dX8_book_23 : decode cX8_book 23 = .ok (.aload_n 0, 1) := by decide +kernel
theorem dX8_book_24 : decode cX8_book 24 = .ok (.getfield 9, 3) := by decide +kernel
theorem dX8_book_27 : decode cX8_book 27 = .ok (.bipush 17, 2) := by decide +kernel
theorem dX8_book_29 : decode cX8_book 29 = .ok (.iaload, 1) := by decide +kernel
theorem dX8_book_30 : decode cX8_book 30 = .ok (.if_icmp .ge 19, 3) := by decide +kernel
theorem dX8_book_33 : decode cX8_book 33 = .ok (.aload_n 0, 1) := by decide +kernel
theorem dX8_book_34 : decode cX8_book 34 = .ok (.getfield 9, 3) := by decide +kernel
theorem dX8_book_37 : decode cX8_book 37 = .ok (.bipush 60, 2) := by decide +kernel
theorem dX8_book_39 : decode cX8_book 39 = .ok (.iconst 5, 1) := by decide +kernel
theorem dX8_book_40 : decode cX8_book 40 = .ok (.iload_n 1, 1) := by decide +kernel
theorem dX8_book_41 : decode cX8_book 41 = .ok (.imul, 1) := by decide +kernel
theorem dX8_book_42 : decode cX8_book 42 = .ok (.iadd, 1) := by decide +kernel
theorem dX8_book_43 : decode cX8_book 43 = .ok (.iload_n 2, 1) := by decide +kernel
theorem dX8_book_44 : decode cX8_book 44 = .ok (.iadd, 1) := by decide +kernel
theorem dX8_book_45 : decode cX8_book 45 = .ok (.iaload, 1) := by decide +kernel
theorem dX8_book_46 : decode cX8_book 46 = .ok (.goto 8, 3) := by decide +kernel
theorem dX8_book_49 : decode cX8_book 49 = .ok (.aload_n 0, 1) := by decide +kernel
theorem dX8_book_50 : decode cX8_book 50 = .ok (.iconst 3, 1) := by decide +kernel
theorem dX8_book_51 : decode cX8_book 51 = .ok (.invokevirtual 74, 3) := by decide +kernel
theorem dX8_book_54 : decode cX8_book 54 = .ok (.ireturn, 1) := by decide +kernel
theorem dX8_finds_0 : decode cX8_finds 0 = .ok (.bipush 8, 2) := by decide +kernel
theorem dX8_finds_2 : decode cX8_finds 2 = .ok (.iload_n 1, 1) := by decide +kernel
theorem dX8_finds_3 : decode cX8_finds 3 = .ok (.imul, 1) := by decide +kernel
theorem dX8_finds_4 : decode cX8_finds 4 = .ok (.iload_n 2, 1) := by decide +kernel
theorem dX8_finds_5 : decode cX8_finds 5 = .ok (.iadd, 1) := by decide +kernel
theorem dX8_finds_6 : decode cX8_finds 6 = .ok (.istore 4, 2) := by decide +kernel
theorem dX8_finds_8 : decode cX8_finds 8 = .ok (.aload_n 0, 1) := by decide +kernel
theorem dX8_finds_9 : decode cX8_finds 9 = .ok (.getfield 25, 3) := by decide +kernel
theorem dX8_finds_12 : decode cX8_finds 12 = .ok (.iload 4, 2) := by decide +kernel
theorem dX8_finds_14 : decode cX8_finds 14 = .ok (.iaload, 1) := by decide +kernel
theorem dX8_finds_15 : decode cX8_finds 15 = .ok (.ifCond .ge 32, 3) := by decide +kernel
theorem dX8_finds_18 : decode cX8_finds 18 = .ok (.aload_n 0, 1) := by decide +kernel
theorem dX8_finds_19 : decode cX8_finds 19 = .ok (.getfield 25, 3) := by decide +kernel
theorem dX8_finds_22 : decode cX8_finds 22 = .ok (.iload 4, 2) := by decide +kernel
theorem dX8_finds_24 : decode cX8_finds 24 = .ok (.iload_n 3, 1) := by decide +kernel
theorem dX8_finds_25 : decode cX8_finds 25 = .ok (.iastore, 1) := by decide +kernel
theorem dX8_finds_26 : decode cX8_finds 26 = .ok (.aload_n 0, 1) := by decide +kernel
theorem dX8_finds_27 : decode cX8_finds 27 = .ok (.getfield 28, 3) := by decide +kernel
theorem dX8_finds_30 : decode cX8_finds 30 = .ok (.aload_n 0, 1) := by decide +kernel
theorem dX8_finds_31 : decode cX8_finds 31 = .ok (.getfield 145, 3) := by decide +kernel
theorem dX8_finds_34 : decode cX8_finds 34 = .ok (.iload 4, 2) := by decide +kernel
theorem dX8_finds_36 : decode cX8_finds 36 = .ok (.iastore, 1) := by decide +kernel
theorem dX8_finds_37 : decode cX8_finds 37 = .ok (.aload_n 0, 1) := by decide +kernel
theorem dX8_finds_38 : decode cX8_finds 38 = .ok (.dup, 1) := by decide +kernel
theorem dX8_finds_39 : decode cX8_finds 39 = .ok (.getfield 145, 3) := by decide +kernel
theorem dX8_finds_42 : decode cX8_finds 42 = .ok (.iconst 1, 1) := by decide +kernel
theorem dX8_finds_43 : decode cX8_finds 43 = .ok (.iadd, 1) := by decide +kernel
theorem dX8_finds_44 : decode cX8_finds 44 = .ok (.putfield 145, 3) := by decide +kernel
theorem dX8_finds_47 : decode cX8_finds 47 = .ok (.return_, 1) := by decide +kernel
theorem dX8_stepsFrom_0 : decode cX8_stepsFrom 0 = .ok (.iload 4, 2) := by decide +kernel
theorem dX8_stepsFrom_2 : decode cX8_stepsFrom 2 = .ok (.bipush 8, 2) := by decide +kernel
theorem dX8_stepsFrom_4 : decode cX8_stepsFrom 4 = .ok (.irem, 1) := by decide +kernel
theorem dX8_stepsFrom_5 : decode cX8_stepsFrom 5 = .ok (.istore 7, 2) := by decide +kernel
theorem dX8_stepsFrom_7 : decode cX8_stepsFrom 7 = .ok (.iload 4, 2) := by decide +kernel
theorem dX8_stepsFrom_9 : decode cX8_stepsFrom 9 = .ok (.bipush 8, 2) := by decide +kernel
theorem dX8_stepsFrom_11 : decode cX8_stepsFrom 11 = .ok (.idiv, 1) := by decide +kernel
theorem dX8_stepsFrom_12 : decode cX8_stepsFrom 12 = .ok (.istore 8, 2) := by decide +kernel
theorem dX8_stepsFrom_14 : decode cX8_stepsFrom 14 = .ok (.iload_n 2, 1) := by decide +kernel
theorem dX8_stepsFrom_15 : decode cX8_stepsFrom 15 = .ok (.ifCond .lt 33, 3) := by decide +kernel
theorem dX8_stepsFrom_18 : decode cX8_stepsFrom 18 = .ok (.iload 5, 2) := by decide +kernel
theorem dX8_stepsFrom_20 : decode cX8_stepsFrom 20 = .ok (.iload 7, 2) := by decide +kernel
theorem dX8_stepsFrom_22 : decode cX8_stepsFrom 22 = .ok (.if_icmp .ne 26, 3) := by decide +kernel
theorem dX8_stepsFrom_25 : decode cX8_stepsFrom 25 = .ok (.aload_n 0, 1) := by decide +kernel
theorem dX8_stepsFrom_26 : decode cX8_stepsFrom 26 = .ok (.iload_n 2, 1) := by decide +kernel
theorem dX8_stepsFrom_27 : decode cX8_stepsFrom 27 = .ok (.iload 8, 2) := by decide +kernel
theorem dX8_stepsFrom_29 : decode cX8_stepsFrom 29 = .ok (.invokevirtual 93, 3) := by decide +kernel
theorem dX8_stepsFrom_32 : decode cX8_stepsFrom 32 = .ok (.aload_n 0, 1) := by decide +kernel
theorem dX8_stepsFrom_33 : decode cX8_stepsFrom 33 = .ok (.getfield 9, 3) := by decide +kernel
theorem dX8_stepsFrom_36 : decode cX8_stepsFrom 36 = .ok (.bipush 56, 2) := by decide +kernel
theorem dX8_stepsFrom_38 : decode cX8_stepsFrom 38 = .ok (.iload_n 1, 1) := by decide +kernel
theorem dX8_stepsFrom_39 : decode cX8_stepsFrom 39 = .ok (.iadd, 1) := by decide +kernel
theorem dX8_stepsFrom_40 : decode cX8_stepsFrom 40 = .ok (.iaload, 1) := by decide +kernel
theorem dX8_stepsFrom_41 : decode cX8_stepsFrom 41 = .ok (.if_icmp .gt 7, 3) := by decide +kernel
theorem dX8_stepsFrom_44 : decode cX8_stepsFrom 44 = .ok (.iconst 1, 1) := by decide +kernel
theorem dX8_stepsFrom_45 : decode cX8_stepsFrom 45 = .ok (.goto 4, 3) := by decide +kernel
theorem dX8_stepsFrom_48 : decode cX8_stepsFrom 48 = .ok (.iconst 0, 1) := by decide +kernel
theorem dX8_stepsFrom_49 : decode cX8_stepsFrom 49 = .ok (.istore 9, 2) := by decide +kernel
theorem dX8_stepsFrom_51 : decode cX8_stepsFrom 51 = .ok (.iconst 0, 1) := by decide +kernel
theorem dX8_stepsFrom_52 : decode cX8_stepsFrom 52 = .ok (.istore 10, 2) := by decide +kernel
theorem dX8_stepsFrom_54 : decode cX8_stepsFrom 54 = .ok (.iload 10, 2) := by decide +kernel
theorem dX8_stepsFrom_56 : decode cX8_stepsFrom 56 = .ok (.bipush 8, 2) := by decide +kernel
theorem dX8_stepsFrom_58 : decode cX8_stepsFrom 58 = .ok (.if_icmp .ge 57, 3) := by decide +kernel
theorem dX8_stepsFrom_61 : decode cX8_stepsFrom 61 = .ok (.aload_n 0, 1) := by decide +kernel
theorem dX8_stepsFrom_62 : decode cX8_stepsFrom 62 = .ok (.iload 7, 2) := by decide +kernel
theorem dX8_stepsFrom_64 : decode cX8_stepsFrom 64 = .ok (.iload 10, 2) := by decide +kernel
theorem dX8_stepsFrom_66 : decode cX8_stepsFrom 66 = .ok (.invokevirtual 77, 3) := by decide +kernel
theorem dX8_stepsFrom_69 : decode cX8_stepsFrom 69 = .ok (.ifCond .eq 40, 3) := by decide +kernel
theorem dX8_stepsFrom_72 : decode cX8_stepsFrom 72 = .ok (.aload_n 0, 1) := by decide +kernel
theorem dX8_stepsFrom_73 : decode cX8_stepsFrom 73 = .ok (.bipush 8, 2) := by decide +kernel
theorem dX8_stepsFrom_75 : decode cX8_stepsFrom 75 = .ok (.iload 8, 2) := by decide +kernel
theorem dX8_stepsFrom_77 : decode cX8_stepsFrom 77 = .ok (.imul, 1) := by decide +kernel
theorem dX8_stepsFrom_78 : decode cX8_stepsFrom 78 = .ok (.iload 10, 2) := by decide +kernel
theorem dX8_stepsFrom_80 : decode cX8_stepsFrom 80 = .ok (.iadd, 1) := by decide +kernel
theorem dX8_stepsFrom_81 : decode cX8_stepsFrom 81 = .ok (.iload 5, 2) := by decide +kernel
theorem dX8_stepsFrom_83 : decode cX8_stepsFrom 83 = .ok (.iload 6, 2) := by decide +kernel
theorem dX8_stepsFrom_85 : decode cX8_stepsFrom 85 = .ok (.invokevirtual 149, 3) := by decide +kernel
theorem dX8_stepsFrom_88 : decode cX8_stepsFrom 88 = .ok (.iload 9, 2) := by decide +kernel
theorem dX8_stepsFrom_90 : decode cX8_stepsFrom 90 = .ok (.ifCond .eq 19, 3) := by decide +kernel
theorem dX8_stepsFrom_93 : decode cX8_stepsFrom 93 = .ok (.aload_n 0, 1) := by decide +kernel
theorem dX8_stepsFrom_94 : decode cX8_stepsFrom 94 = .ok (.bipush 8, 2) := by decide +kernel
theorem dX8_stepsFrom_96 : decode cX8_stepsFrom 96 = .ok (.iload 8, 2) := by decide +kernel
theorem dX8_stepsFrom_98 : decode cX8_stepsFrom 98 = .ok (.imul, 1) := by decide +kernel
theorem dX8_stepsFrom_99 : decode cX8_stepsFrom 99 = .ok (.iload 10, 2) := by decide +kernel
theorem dX8_stepsFrom_101 : decode cX8_stepsFrom 101 = .ok (.iadd, 1) := by decide +kernel
theorem dX8_stepsFrom_102 : decode cX8_stepsFrom 102 = .ok (.iload 10, 2) := by decide +kernel
theorem dX8_stepsFrom_104 : decode cX8_stepsFrom 104 = .ok (.iload 6, 2) := by decide +kernel
theorem dX8_stepsFrom_106 : decode cX8_stepsFrom 106 = .ok (.invokevirtual 149, 3) := by decide +kernel
theorem dX8_stepsFrom_109 : decode cX8_stepsFrom 109 = .ok (.iinc 10 1, 3) := by decide +kernel
theorem dX8_stepsFrom_112 : decode cX8_stepsFrom 112 = .ok (.goto (-58), 3) := by decide +kernel
theorem dX8_stepsFrom_115 : decode cX8_stepsFrom 115 = .ok (.iload 7, 2) := by decide +kernel
theorem dX8_stepsFrom_117 : decode cX8_stepsFrom 117 = .ok (.aload_n 0, 1) := by decide +kernel
theorem dX8_stepsFrom_118 : decode cX8_stepsFrom 118 = .ok (.getfield 9, 3) := by decide +kernel
theorem dX8_stepsFrom_121 : decode cX8_stepsFrom 121 = .ok (.bipush 8, 2) := by decide +kernel
theorem dX8_stepsFrom_123 : decode cX8_stepsFrom 123 = .ok (.iaload, 1) := by decide +kernel
theorem dX8_stepsFrom_124 : decode cX8_stepsFrom 124 = .ok (.if_icmp .ne 13, 3) := by decide +kernel
theorem dX8_stepsFrom_127 : decode cX8_stepsFrom 127 = .ok (.iload 8, 2) := by decide +kernel
theorem dX8_stepsFrom_129 : decode cX8_stepsFrom 129 = .ok (.iconst 4, 1) := by decide +kernel
theorem dX8_stepsFrom_130 : decode cX8_stepsFrom 130 = .ok (.if_icmp .ge 7, 3) := by decide +kernel
theorem dX8_stepsFrom_133 : decode cX8_stepsFrom 133 = .ok (.iconst 1, 1) := by decide +kernel
theorem dX8_stepsFrom_134 : decode cX8_stepsFrom 134 = .ok (.goto 4, 3) := by decide +kernel
theorem dX8_stepsFrom_137 : decode cX8_stepsFrom 137 = .ok (.iconst 0, 1) := by decide +kernel
theorem dX8_stepsFrom_138 : decode cX8_stepsFrom 138 = .ok (.istore 10, 2) := by decide +kernel
theorem dX8_stepsFrom_140 : decode cX8_stepsFrom 140 = .ok (.iload 10, 2) := by decide +kernel
theorem dX8_stepsFrom_142 : decode cX8_stepsFrom 142 = .ok (.ifCond .eq 26, 3) := by decide +kernel
theorem dX8_stepsFrom_145 : decode cX8_stepsFrom 145 = .ok (.aload_n 0, 1) := by decide +kernel
theorem dX8_stepsFrom_146 : decode cX8_stepsFrom 146 = .ok (.bipush 8, 2) := by decide +kernel
theorem dX8_stepsFrom_148 : decode cX8_stepsFrom 148 = .ok (.iload 8, 2) := by decide +kernel
theorem dX8_stepsFrom_150 : decode cX8_stepsFrom 150 = .ok (.iconst 1, 1) := by decide +kernel
theorem dX8_stepsFrom_151 : decode cX8_stepsFrom 151 = .ok (.iadd, 1) := by decide +kernel
theorem dX8_stepsFrom_152 : decode cX8_stepsFrom 152 = .ok (.imul, 1) := by decide +kernel
theorem dX8_stepsFrom_153 : decode cX8_stepsFrom 153 = .ok (.aload_n 0, 1) := by decide +kernel
theorem dX8_stepsFrom_154 : decode cX8_stepsFrom 154 = .ok (.getfield 9, 3) := by decide +kernel
theorem dX8_stepsFrom_157 : decode cX8_stepsFrom 157 = .ok (.bipush 9, 2) := by decide +kernel
theorem dX8_stepsFrom_159 : decode cX8_stepsFrom 159 = .ok (.iaload, 1) := by decide +kernel
theorem dX8_stepsFrom_160 : decode cX8_stepsFrom 160 = .ok (.iadd, 1) := by decide +kernel
theorem dX8_stepsFrom_161 : decode cX8_stepsFrom 161 = .ok (.iload 5, 2) := by decide +kernel
theorem dX8_stepsFrom_163 : decode cX8_stepsFrom 163 = .ok (.iload 6, 2) := by decide +kernel
theorem dX8_stepsFrom_165 : decode cX8_stepsFrom 165 = .ok (.invokevirtual 149, 3) := by decide +kernel
theorem dX8_stepsFrom_168 : decode cX8_stepsFrom 168 = .ok (.iload 7, 2) := by decide +kernel
theorem dX8_stepsFrom_170 : decode cX8_stepsFrom 170 = .ok (.aload_n 0, 1) := by decide +kernel
theorem dX8_stepsFrom_171 : decode cX8_stepsFrom 171 = .ok (.getfield 9, 3) := by decide +kernel
theorem dX8_stepsFrom_174 : decode cX8_stepsFrom 174 = .ok (.bipush 9, 2) := by decide +kernel
theorem dX8_stepsFrom_176 : decode cX8_stepsFrom 176 = .ok (.iaload, 1) := by decide +kernel
theorem dX8_stepsFrom_177 : decode cX8_stepsFrom 177 = .ok (.if_icmp .ne 31, 3) := by decide +kernel
theorem dX8_stepsFrom_180 : decode cX8_stepsFrom 180 = .ok (.iload 8, 2) := by decide +kernel
theorem dX8_stepsFrom_182 : decode cX8_stepsFrom 182 = .ok (.ifCond .le 26, 3) := by decide +kernel
theorem dX8_stepsFrom_185 : decode cX8_stepsFrom 185 = .ok (.aload_n 0, 1) := by decide +kernel
theorem dX8_stepsFrom_186 : decode cX8_stepsFrom 186 = .ok (.bipush 8, 2) := by decide +kernel
theorem dX8_stepsFrom_188 : decode cX8_stepsFrom 188 = .ok (.iload 8, 2) := by decide +kernel
theorem dX8_stepsFrom_190 : decode cX8_stepsFrom 190 = .ok (.iconst 1, 1) := by decide +kernel
theorem dX8_stepsFrom_191 : decode cX8_stepsFrom 191 = .ok (.isub, 1) := by decide +kernel
theorem dX8_stepsFrom_192 : decode cX8_stepsFrom 192 = .ok (.imul, 1) := by decide +kernel
theorem dX8_stepsFrom_193 : decode cX8_stepsFrom 193 = .ok (.aload_n 0, 1) := by decide +kernel
theorem dX8_stepsFrom_194 : decode cX8_stepsFrom 194 = .ok (.getfield 9, 3) := by decide +kernel
theorem dX8_stepsFrom_197 : decode cX8_stepsFrom 197 = .ok (.bipush 8, 2) := by decide +kernel
theorem dX8_stepsFrom_199 : decode cX8_stepsFrom 199 = .ok (.iaload, 1) := by decide +kernel
theorem dX8_stepsFrom_200 : decode cX8_stepsFrom 200 = .ok (.iadd, 1) := by decide +kernel
theorem dX8_stepsFrom_201 : decode cX8_stepsFrom 201 = .ok (.iload 5, 2) := by decide +kernel
theorem dX8_stepsFrom_203 : decode cX8_stepsFrom 203 = .ok (.iload 6, 2) := by decide +kernel
theorem dX8_stepsFrom_205 : decode cX8_stepsFrom 205 = .ok (.invokevirtual 149, 3) := by decide +kernel
theorem dX8_stepsFrom_208 : decode cX8_stepsFrom 208 = .ok (.iload_n 3, 1) := by decide +kernel
theorem dX8_stepsFrom_209 : decode cX8_stepsFrom 209 = .ok (.ifCond .eq 37, 3) := by decide +kernel
theorem dX8_stepsFrom_212 : decode cX8_stepsFrom 212 = .ok (.iload_n 2, 1) := by decide +kernel
theorem dX8_stepsFrom_213 : decode cX8_stepsFrom 213 = .ok (.ifCond .lt 33, 3) := by decide +kernel
theorem dX8_stepsFrom_216 : decode cX8_stepsFrom 216 = .ok (.iload 10, 2) := by decide +kernel
theorem dX8_stepsFrom_218 : decode cX8_stepsFrom 218 = .ok (.ifCond .eq 28, 3) := by decide +kernel
theorem dX8_stepsFrom_221 : decode cX8_stepsFrom 221 = .ok (.aload_n 0, 1) := by decide +kernel
theorem dX8_stepsFrom_222 : decode cX8_stepsFrom 222 = .ok (.iload_n 2, 1) := by decide +kernel
theorem dX8_stepsFrom_223 : decode cX8_stepsFrom 223 = .ok (.iload 8, 2) := by decide +kernel
theorem dX8_stepsFrom_225 : decode cX8_stepsFrom 225 = .ok (.iconst 1, 1) := by decide +kernel
theorem dX8_stepsFrom_226 : decode cX8_stepsFrom 226 = .ok (.iadd, 1) := by decide +kernel
theorem dX8_stepsFrom_227 : decode cX8_stepsFrom 227 = .ok (.invokevirtual 93, 3) := by decide +kernel
theorem dX8_stepsFrom_230 : decode cX8_stepsFrom 230 = .ok (.aload_n 0, 1) := by decide +kernel
theorem dX8_stepsFrom_231 : decode cX8_stepsFrom 231 = .ok (.getfield 9, 3) := by decide +kernel
theorem dX8_stepsFrom_234 : decode cX8_stepsFrom 234 = .ok (.bipush 56, 2) := by decide +kernel
theorem dX8_stepsFrom_236 : decode cX8_stepsFrom 236 = .ok (.iload_n 1, 1) := by decide +kernel
theorem dX8_stepsFrom_237 : decode cX8_stepsFrom 237 = .ok (.iadd, 1) := by decide +kernel
theorem dX8_stepsFrom_238 : decode cX8_stepsFrom 238 = .ok (.iaload, 1) := by decide +kernel
theorem dX8_stepsFrom_239 : decode cX8_stepsFrom 239 = .ok (.if_icmp .gt 7, 3) := by decide +kernel
theorem dX8_stepsFrom_242 : decode cX8_stepsFrom 242 = .ok (.iconst 1, 1) := by decide +kernel
theorem dX8_stepsFrom_243 : decode cX8_stepsFrom 243 = .ok (.goto 4, 3) := by decide +kernel
theorem dX8_stepsFrom_246 : decode cX8_stepsFrom 246 = .ok (.iconst 0, 1) := by decide +kernel
theorem dX8_stepsFrom_247 : decode cX8_stepsFrom 247 = .ok (.istore 11, 2) := by decide +kernel
theorem dX8_stepsFrom_249 : decode cX8_stepsFrom 249 = .ok (.iconst 0, 1) := by decide +kernel
theorem dX8_stepsFrom_250 : decode cX8_stepsFrom 250 = .ok (.istore 12, 2) := by decide +kernel
theorem dX8_stepsFrom_252 : decode cX8_stepsFrom 252 = .ok (.iload 12, 2) := by decide +kernel
theorem dX8_stepsFrom_254 : decode cX8_stepsFrom 254 = .ok (.bipush 8, 2) := by decide +kernel
theorem dX8_stepsFrom_256 : decode cX8_stepsFrom 256 = .ok (.if_icmp .ge 24, 3) := by decide +kernel
theorem dX8_stepsFrom_259 : decode cX8_stepsFrom 259 = .ok (.iload 11, 2) := by decide +kernel
theorem dX8_stepsFrom_261 : decode cX8_stepsFrom 261 = .ok (.ifCond .eq 19, 3) := by decide +kernel
theorem dX8_stepsFrom_264 : decode cX8_stepsFrom 264 = .ok (.aload_n 0, 1) := by decide +kernel
theorem dX8_stepsFrom_265 : decode cX8_stepsFrom 265 = .ok (.iload 4, 2) := by decide +kernel
theorem dX8_stepsFrom_267 : decode cX8_stepsFrom 267 = .ok (.iload 12, 2) := by decide +kernel
theorem dX8_stepsFrom_269 : decode cX8_stepsFrom 269 = .ok (.iload 6, 2) := by decide +kernel
theorem dX8_stepsFrom_271 : decode cX8_stepsFrom 271 = .ok (.invokevirtual 149, 3) := by decide +kernel
theorem dX8_stepsFrom_274 : decode cX8_stepsFrom 274 = .ok (.iinc 12 1, 3) := by decide +kernel
theorem dX8_stepsFrom_277 : decode cX8_stepsFrom 277 = .ok (.goto (-25), 3) := by decide +kernel
theorem dX8_stepsFrom_280 : decode cX8_stepsFrom 280 = .ok (.return_, 1) := by decide +kernel
theorem dX8_walksAll_0 : decode cX8_walksAll 0 = .ok (.iconst 0, 1) := by decide +kernel
theorem dX8_walksAll_1 : decode cX8_walksAll 1 = .ok (.istore 4, 2) := by decide +kernel
theorem dX8_walksAll_3 : decode cX8_walksAll 3 = .ok (.iload 4, 2) := by decide +kernel
theorem dX8_walksAll_5 : decode cX8_walksAll 5 = .ok (.sipush 320, 3) := by decide +kernel
theorem dX8_walksAll_8 : decode cX8_walksAll 8 = .ok (.if_icmp .ge 17, 3) := by decide +kernel
theorem dX8_walksAll_11 : decode cX8_walksAll 11 = .ok (.aload_n 0, 1) := by decide +kernel
theorem dX8_walksAll_12 : decode cX8_walksAll 12 = .ok (.getfield 25, 3) := by decide +kernel
theorem dX8_walksAll_15 : decode cX8_walksAll 15 = .ok (.iload 4, 2) := by decide +kernel
theorem dX8_walksAll_17 : decode cX8_walksAll 17 = .ok (.iconst (-1), 1) := by decide +kernel
theorem dX8_walksAll_18 : decode cX8_walksAll 18 = .ok (.iastore, 1) := by decide +kernel
theorem dX8_walksAll_19 : decode cX8_walksAll 19 = .ok (.iinc 4 1, 3) := by decide +kernel
theorem dX8_walksAll_22 : decode cX8_walksAll 22 = .ok (.goto (-19), 3) := by decide +kernel
theorem dX8_walksAll_25 : decode cX8_walksAll 25 = .ok (.aload_n 0, 1) := by decide +kernel
theorem dX8_walksAll_26 : decode cX8_walksAll 26 = .ok (.iconst 0, 1) := by decide +kernel
theorem dX8_walksAll_27 : decode cX8_walksAll 27 = .ok (.putfield 145, 3) := by decide +kernel
theorem dX8_walksAll_30 : decode cX8_walksAll 30 = .ok (.aload_n 0, 1) := by decide +kernel
theorem dX8_walksAll_31 : decode cX8_walksAll 31 = .ok (.iconst 0, 1) := by decide +kernel
theorem dX8_walksAll_32 : decode cX8_walksAll 32 = .ok (.putfield 152, 3) := by decide +kernel
theorem dX8_walksAll_35 : decode cX8_walksAll 35 = .ok (.aload_n 0, 1) := by decide +kernel
theorem dX8_walksAll_36 : decode cX8_walksAll 36 = .ok (.aload_n 0, 1) := by decide +kernel
theorem dX8_walksAll_37 : decode cX8_walksAll 37 = .ok (.getfield 9, 3) := by decide +kernel
theorem dX8_walksAll_40 : decode cX8_walksAll 40 = .ok (.bipush 52, 2) := by decide +kernel
theorem dX8_walksAll_42 : decode cX8_walksAll 42 = .ok (.iload_n 1, 1) := by decide +kernel
theorem dX8_walksAll_43 : decode cX8_walksAll 43 = .ok (.iadd, 1) := by decide +kernel
theorem dX8_walksAll_44 : decode cX8_walksAll 44 = .ok (.iaload, 1) := by decide +kernel
theorem dX8_walksAll_45 : decode cX8_walksAll 45 = .ok (.iload_n 2, 1) := by decide +kernel
theorem dX8_walksAll_46 : decode cX8_walksAll 46 = .ok (.ifCond .ge 7, 3) := by decide +kernel
theorem dX8_walksAll_49 : decode cX8_walksAll 49 = .ok (.iconst 0, 1) := by decide +kernel
theorem dX8_walksAll_50 : decode cX8_walksAll 50 = .ok (.goto 12, 3) := by decide +kernel
theorem dX8_walksAll_53 : decode cX8_walksAll 53 = .ok (.aload_n 0, 1) := by decide +kernel
theorem dX8_walksAll_54 : decode cX8_walksAll 54 = .ok (.getfield 9, 3) := by decide +kernel
theorem dX8_walksAll_57 : decode cX8_walksAll 57 = .ok (.bipush 36, 2) := by decide +kernel
theorem dX8_walksAll_59 : decode cX8_walksAll 59 = .ok (.iload_n 2, 1) := by decide +kernel
theorem dX8_walksAll_60 : decode cX8_walksAll 60 = .ok (.iadd, 1) := by decide +kernel
theorem dX8_walksAll_61 : decode cX8_walksAll 61 = .ok (.iaload, 1) := by decide +kernel
theorem dX8_walksAll_62 : decode cX8_walksAll 62 = .ok (.iconst 0, 1) := by decide +kernel
theorem dX8_walksAll_63 : decode cX8_walksAll 63 = .ok (.invokevirtual 149, 3) := by decide +kernel
theorem dX8_walksAll_66 : decode cX8_walksAll 66 = .ok (.aload_n 0, 1) := by decide +kernel
theorem dX8_walksAll_67 : decode cX8_walksAll 67 = .ok (.getfield 152, 3) := by decide +kernel
theorem dX8_walksAll_70 : decode cX8_walksAll 70 = .ok (.aload_n 0, 1) := by decide +kernel
theorem dX8_walksAll_71 : decode cX8_walksAll 71 = .ok (.getfield 145, 3) := by decide +kernel
theorem dX8_walksAll_74 : decode cX8_walksAll 74 = .ok (.if_icmp .ge 53, 3) := by decide +kernel
theorem dX8_walksAll_77 : decode cX8_walksAll 77 = .ok (.aload_n 0, 1) := by decide +kernel
theorem dX8_walksAll_78 : decode cX8_walksAll 78 = .ok (.getfield 28, 3) := by decide +kernel
theorem dX8_walksAll_81 : decode cX8_walksAll 81 = .ok (.aload_n 0, 1) := by decide +kernel
theorem dX8_walksAll_82 : decode cX8_walksAll 82 = .ok (.getfield 152, 3) := by decide +kernel
theorem dX8_walksAll_85 : decode cX8_walksAll 85 = .ok (.iaload, 1) := by decide +kernel
theorem dX8_walksAll_86 : decode cX8_walksAll 86 = .ok (.istore 4, 2) := by decide +kernel
theorem dX8_walksAll_88 : decode cX8_walksAll 88 = .ok (.aload_n 0, 1) := by decide +kernel
theorem dX8_walksAll_89 : decode cX8_walksAll 89 = .ok (.dup, 1) := by decide +kernel
theorem dX8_walksAll_90 : decode cX8_walksAll 90 = .ok (.getfield 152, 3) := by decide +kernel
theorem dX8_walksAll_93 : decode cX8_walksAll 93 = .ok (.iconst 1, 1) := by decide +kernel
theorem dX8_walksAll_94 : decode cX8_walksAll 94 = .ok (.iadd, 1) := by decide +kernel
theorem dX8_walksAll_95 : decode cX8_walksAll 95 = .ok (.putfield 152, 3) := by decide +kernel
theorem dX8_walksAll_98 : decode cX8_walksAll 98 = .ok (.aload_n 0, 1) := by decide +kernel
theorem dX8_walksAll_99 : decode cX8_walksAll 99 = .ok (.iload_n 1, 1) := by decide +kernel
theorem dX8_walksAll_100 : decode cX8_walksAll 100 = .ok (.iload_n 2, 1) := by decide +kernel
theorem dX8_walksAll_101 : decode cX8_walksAll 101 = .ok (.iload_n 3, 1) := by decide +kernel
theorem dX8_walksAll_102 : decode cX8_walksAll 102 = .ok (.iload 4, 2) := by decide +kernel
theorem dX8_walksAll_104 : decode cX8_walksAll 104 = .ok (.bipush 8, 2) := by decide +kernel
theorem dX8_walksAll_106 : decode cX8_walksAll 106 = .ok (.idiv, 1) := by decide +kernel
theorem dX8_walksAll_107 : decode cX8_walksAll 107 = .ok (.iload 4, 2) := by decide +kernel
theorem dX8_walksAll_109 : decode cX8_walksAll 109 = .ok (.bipush 8, 2) := by decide +kernel
theorem dX8_walksAll_111 : decode cX8_walksAll 111 = .ok (.irem, 1) := by decide +kernel
theorem dX8_walksAll_112 : decode cX8_walksAll 112 = .ok (.aload_n 0, 1) := by decide +kernel
theorem dX8_walksAll_113 : decode cX8_walksAll 113 = .ok (.getfield 25, 3) := by decide +kernel
theorem dX8_walksAll_116 : decode cX8_walksAll 116 = .ok (.iload 4, 2) := by decide +kernel
theorem dX8_walksAll_118 : decode cX8_walksAll 118 = .ok (.iaload, 1) := by decide +kernel
theorem dX8_walksAll_119 : decode cX8_walksAll 119 = .ok (.iconst 1, 1) := by decide +kernel
theorem dX8_walksAll_120 : decode cX8_walksAll 120 = .ok (.iadd, 1) := by decide +kernel
theorem dX8_walksAll_121 : decode cX8_walksAll 121 = .ok (.invokevirtual 155, 3) := by decide +kernel
theorem dX8_walksAll_124 : decode cX8_walksAll 124 = .ok (.goto (-58), 3) := by decide +kernel
theorem dX8_walksAll_127 : decode cX8_walksAll 127 = .ok (.return_, 1) := by decide +kernel
theorem dX8_ways_0 : decode cX8_ways 0 = .ok (.aload_n 0, 1) := by decide +kernel
theorem dX8_ways_1 : decode cX8_ways 1 = .ok (.iload_n 1, 1) := by decide +kernel
theorem dX8_ways_2 : decode cX8_ways 2 = .ok (.invokevirtual 106, 3) := by decide +kernel
theorem dX8_ways_5 : decode cX8_ways 5 = .ok (.ifCond .ne 10, 3) := by decide +kernel
theorem dX8_ways_8 : decode cX8_ways 8 = .ok (.aload_n 0, 1) := by decide +kernel
theorem dX8_ways_9 : decode cX8_ways 9 = .ok (.iconst 0, 1) := by decide +kernel
theorem dX8_ways_10 : decode cX8_ways 10 = .ok (.invokevirtual 74, 3) := by decide +kernel
theorem dX8_ways_13 : decode cX8_ways 13 = .ok (.i2l, 1) := by decide +kernel
theorem dX8_ways_14 : decode cX8_ways 14 = .ok (.lreturn, 1) := by decide +kernel
theorem dX8_ways_15 : decode cX8_ways 15 = .ok (.aload_n 0, 1) := by decide +kernel
theorem dX8_ways_16 : decode cX8_ways 16 = .ok (.iload_n 1, 1) := by decide +kernel
theorem dX8_ways_17 : decode cX8_ways 17 = .ok (.iconst (-1), 1) := by decide +kernel
theorem dX8_ways_18 : decode cX8_ways 18 = .ok (.iconst 0, 1) := by decide +kernel
theorem dX8_ways_19 : decode cX8_ways 19 = .ok (.invokevirtual 159, 3) := by decide +kernel
theorem dX8_ways_22 : decode cX8_ways 22 = .ok (.lconst 0, 1) := by decide +kernel
theorem dX8_ways_23 : decode cX8_ways 23 = .ok (.lstore_n 2, 1) := by decide +kernel
theorem dX8_ways_24 : decode cX8_ways 24 = .ok (.iconst 0, 1) := by decide +kernel
theorem dX8_ways_25 : decode cX8_ways 25 = .ok (.istore 4, 2) := by decide +kernel
theorem dX8_ways_27 : decode cX8_ways 27 = .ok (.iload 4, 2) := by decide +kernel
theorem dX8_ways_29 : decode cX8_ways 29 = .ok (.bipush 40, 2) := by decide +kernel
theorem dX8_ways_31 : decode cX8_ways 31 = .ok (.if_icmp .ge 33, 3) := by decide +kernel
theorem dX8_ways_34 : decode cX8_ways 34 = .ok (.lload_n 2, 1) := by decide +kernel
theorem dX8_ways_35 : decode cX8_ways 35 = .ok (.aload_n 0, 1) := by decide +kernel
theorem dX8_ways_36 : decode cX8_ways 36 = .ok (.getfield 25, 3) := by decide +kernel
theorem dX8_ways_39 : decode cX8_ways 39 = .ok (.bipush 8, 2) := by decide +kernel
theorem dX8_ways_41 : decode cX8_ways 41 = .ok (.iload 4, 2) := by decide +kernel
theorem dX8_ways_43 : decode cX8_ways 43 = .ok (.imul, 1) := by decide +kernel
theorem dX8_ways_44 : decode cX8_ways 44 = .ok (.iaload, 1) := by decide +kernel
theorem dX8_ways_45 : decode cX8_ways 45 = .ok (.ifCond .ge 7, 3) := by decide +kernel
theorem dX8_ways_48 : decode cX8_ways 48 = .ok (.lconst 0, 1) := by decide +kernel
theorem dX8_ways_49 : decode cX8_ways 49 = .ok (.goto 7, 3) := by decide +kernel
theorem dX8_ways_52 : decode cX8_ways 52 = .ok (.lconst 1, 1) := by decide +kernel
theorem dX8_ways_53 : decode cX8_ways 53 = .ok (.iload 4, 2) := by decide +kernel
theorem dX8_ways_55 : decode cX8_ways 55 = .ok (.lshl, 1) := by decide +kernel
theorem dX8_ways_56 : decode cX8_ways 56 = .ok (.lor, 1) := by decide +kernel
theorem dX8_ways_57 : decode cX8_ways 57 = .ok (.lstore_n 2, 1) := by decide +kernel
theorem dX8_ways_58 : decode cX8_ways 58 = .ok (.iinc 4 1, 3) := by decide +kernel
theorem dX8_ways_61 : decode cX8_ways 61 = .ok (.goto (-34), 3) := by decide +kernel
theorem dX8_ways_64 : decode cX8_ways 64 = .ok (.lload_n 2, 1) := by decide +kernel
theorem dX8_ways_65 : decode cX8_ways 65 = .ok (.lreturn, 1) := by decide +kernel
theorem dX8_orNone_0 : decode cX8_orNone 0 = .ok (.iload_n 1, 1) := by decide +kernel
theorem dX8_orNone_1 : decode cX8_orNone 1 = .ok (.ifCond .ge 11, 3) := by decide +kernel
theorem dX8_orNone_4 : decode cX8_orNone 4 = .ok (.aload_n 0, 1) := by decide +kernel
theorem dX8_orNone_5 : decode cX8_orNone 5 = .ok (.iconst 3, 1) := by decide +kernel
theorem dX8_orNone_6 : decode cX8_orNone 6 = .ok (.invokevirtual 74, 3) := by decide +kernel
theorem dX8_orNone_9 : decode cX8_orNone 9 = .ok (.goto 4, 3) := by decide +kernel
theorem dX8_orNone_12 : decode cX8_orNone 12 = .ok (.iload_n 1, 1) := by decide +kernel
theorem dX8_orNone_13 : decode cX8_orNone 13 = .ok (.ireturn, 1) := by decide +kernel
theorem dX8_far_0 : decode cX8_far 0 = .ok (.aload_n 0, 1) := by decide +kernel
theorem dX8_far_1 : decode cX8_far 1 = .ok (.iload_n 1, 1) := by decide +kernel
theorem dX8_far_2 : decode cX8_far 2 = .ok (.invokevirtual 106, 3) := by decide +kernel
theorem dX8_far_5 : decode cX8_far 5 = .ok (.ifCond .eq 10, 3) := by decide +kernel
theorem dX8_far_8 : decode cX8_far 8 = .ok (.iload_n 2, 1) := by decide +kernel
theorem dX8_far_9 : decode cX8_far 9 = .ok (.invokestatic 99, 3) := by decide +kernel
theorem dX8_far_12 : decode cX8_far 12 = .ok (.ifCond .ne 9, 3) := by decide +kernel
theorem dX8_far_15 : decode cX8_far 15 = .ok (.aload_n 0, 1) := by decide +kernel
theorem dX8_far_16 : decode cX8_far 16 = .ok (.iconst 0, 1) := by decide +kernel
theorem dX8_far_17 : decode cX8_far 17 = .ok (.invokevirtual 74, 3) := by decide +kernel
theorem dX8_far_20 : decode cX8_far 20 = .ok (.ireturn, 1) := by decide +kernel
theorem dX8_far_21 : decode cX8_far 21 = .ok (.aload_n 0, 1) := by decide +kernel
theorem dX8_far_22 : decode cX8_far 22 = .ok (.iload_n 1, 1) := by decide +kernel
theorem dX8_far_23 : decode cX8_far 23 = .ok (.iconst (-1), 1) := by decide +kernel
theorem dX8_far_24 : decode cX8_far 24 = .ok (.iconst 0, 1) := by decide +kernel
theorem dX8_far_25 : decode cX8_far 25 = .ok (.invokevirtual 159, 3) := by decide +kernel
theorem dX8_far_28 : decode cX8_far 28 = .ok (.aload_n 0, 1) := by decide +kernel
theorem dX8_far_29 : decode cX8_far 29 = .ok (.aload_n 0, 1) := by decide +kernel
theorem dX8_far_30 : decode cX8_far 30 = .ok (.getfield 25, 3) := by decide +kernel
theorem dX8_far_33 : decode cX8_far 33 = .ok (.bipush 8, 2) := by decide +kernel
theorem dX8_far_35 : decode cX8_far 35 = .ok (.iload_n 2, 1) := by decide +kernel
theorem dX8_far_36 : decode cX8_far 36 = .ok (.imul, 1) := by decide +kernel
theorem dX8_far_37 : decode cX8_far 37 = .ok (.iaload, 1) := by decide +kernel
theorem dX8_far_38 : decode cX8_far 38 = .ok (.invokevirtual 162, 3) := by decide +kernel
theorem dX8_far_41 : decode cX8_far 41 = .ok (.ireturn, 1) := by decide +kernel
theorem dX8_leastFor_0 : decode cX8_leastFor 0 = .ok (.iconst (-1), 1) := by decide +kernel
theorem dX8_leastFor_1 : decode cX8_leastFor 1 = .ok (.istore_n 2, 1) := by decide +kernel
theorem dX8_leastFor_2 : decode cX8_leastFor 2 = .ok (.iconst 0, 1) := by decide +kernel
theorem dX8_leastFor_3 : decode cX8_leastFor 3 = .ok (.istore_n 3, 1) := by decide +kernel
theorem dX8_leastFor_4 : decode cX8_leastFor 4 = .ok (.iload_n 3, 1) := by decide +kernel
theorem dX8_leastFor_5 : decode cX8_leastFor 5 = .ok (.bipush 40, 2) := by decide +kernel
theorem dX8_leastFor_7 : decode cX8_leastFor 7 = .ok (.if_icmp .ge 44, 3) := by decide +kernel
theorem dX8_leastFor_10 : decode cX8_leastFor 10 = .ok (.aload_n 0, 1) := by decide +kernel
theorem dX8_leastFor_11 : decode cX8_leastFor 11 = .ok (.getfield 25, 3) := by decide +kernel
theorem dX8_leastFor_14 : decode cX8_leastFor 14 = .ok (.bipush 8, 2) := by decide +kernel
theorem dX8_leastFor_16 : decode cX8_leastFor 16 = .ok (.iload_n 3, 1) := by decide +kernel
theorem dX8_leastFor_17 : decode cX8_leastFor 17 = .ok (.imul, 1) := by decide +kernel
theorem dX8_leastFor_18 : decode cX8_leastFor 18 = .ok (.iload_n 1, 1) := by decide +kernel
theorem dX8_leastFor_19 : decode cX8_leastFor 19 = .ok (.iadd, 1) := by decide +kernel
theorem dX8_leastFor_20 : decode cX8_leastFor 20 = .ok (.iaload, 1) := by decide +kernel
theorem dX8_leastFor_21 : decode cX8_leastFor 21 = .ok (.istore 4, 2) := by decide +kernel
theorem dX8_leastFor_23 : decode cX8_leastFor 23 = .ok (.iload 4, 2) := by decide +kernel
theorem dX8_leastFor_25 : decode cX8_leastFor 25 = .ok (.ifCond .lt 18, 3) := by decide +kernel
theorem dX8_leastFor_28 : decode cX8_leastFor 28 = .ok (.iload_n 2, 1) := by decide +kernel
theorem dX8_leastFor_29 : decode cX8_leastFor 29 = .ok (.ifCond .lt 9, 3) := by decide +kernel
theorem dX8_leastFor_32 : decode cX8_leastFor 32 = .ok (.iload 4, 2) := by decide +kernel
theorem dX8_leastFor_34 : decode cX8_leastFor 34 = .ok (.iload_n 2, 1) := by decide +kernel
theorem dX8_leastFor_35 : decode cX8_leastFor 35 = .ok (.if_icmp .ge 8, 3) := by decide +kernel
theorem dX8_leastFor_38 : decode cX8_leastFor 38 = .ok (.iload 4, 2) := by decide +kernel
theorem dX8_leastFor_40 : decode cX8_leastFor 40 = .ok (.goto 4, 3) := by decide +kernel
theorem dX8_leastFor_43 : decode cX8_leastFor 43 = .ok (.iload_n 2, 1) := by decide +kernel
theorem dX8_leastFor_44 : decode cX8_leastFor 44 = .ok (.istore_n 2, 1) := by decide +kernel
theorem dX8_leastFor_45 : decode cX8_leastFor 45 = .ok (.iinc 3 1, 3) := by decide +kernel
theorem dX8_leastFor_48 : decode cX8_leastFor 48 = .ok (.goto (-44), 3) := by decide +kernel
theorem dX8_leastFor_51 : decode cX8_leastFor 51 = .ok (.iload_n 2, 1) := by decide +kernel
theorem dX8_leastFor_52 : decode cX8_leastFor 52 = .ok (.ireturn, 1) := by decide +kernel
theorem dX8_stepsOf_0 : decode cX8_stepsOf 0 = .ok (.aload_n 0, 1) := by decide +kernel
theorem dX8_stepsOf_1 : decode cX8_stepsOf 1 = .ok (.iload_n 1, 1) := by decide +kernel
theorem dX8_stepsOf_2 : decode cX8_stepsOf 2 = .ok (.iload_n 2, 1) := by decide +kernel
theorem dX8_stepsOf_3 : decode cX8_stepsOf 3 = .ok (.iconst 1, 1) := by decide +kernel
theorem dX8_stepsOf_4 : decode cX8_stepsOf 4 = .ok (.invokevirtual 159, 3) := by decide +kernel
theorem dX8_stepsOf_7 : decode cX8_stepsOf 7 = .ok (.aload_n 0, 1) := by decide +kernel
theorem dX8_stepsOf_8 : decode cX8_stepsOf 8 = .ok (.iload_n 3, 1) := by decide +kernel
theorem dX8_stepsOf_9 : decode cX8_stepsOf 9 = .ok (.invokevirtual 165, 3) := by decide +kernel
theorem dX8_stepsOf_12 : decode cX8_stepsOf 12 = .ok (.ireturn, 1) := by decide +kernel
theorem dX8_isTask_0 : decode cX8_isTask 0 = .ok (.aload_n 0, 1) := by decide +kernel
theorem dX8_isTask_1 : decode cX8_isTask 1 = .ok (.iload_n 1, 1) := by decide +kernel
theorem dX8_isTask_2 : decode cX8_isTask 2 = .ok (.invokevirtual 106, 3) := by decide +kernel
theorem dX8_isTask_5 : decode cX8_isTask 5 = .ok (.ifCond .eq 22, 3) := by decide +kernel
theorem dX8_isTask_8 : decode cX8_isTask 8 = .ok (.aload_n 0, 1) := by decide +kernel
theorem dX8_isTask_9 : decode cX8_isTask 9 = .ok (.iload_n 2, 1) := by decide +kernel
theorem dX8_isTask_10 : decode cX8_isTask 10 = .ok (.invokevirtual 90, 3) := by decide +kernel
theorem dX8_isTask_13 : decode cX8_isTask 13 = .ok (.ifCond .eq 14, 3) := by decide +kernel
theorem dX8_isTask_16 : decode cX8_isTask 16 = .ok (.iload_n 3, 1) := by decide +kernel
theorem dX8_isTask_17 : decode cX8_isTask 17 = .ok (.invokestatic 70, 3) := by decide +kernel
theorem dX8_isTask_20 : decode cX8_isTask 20 = .ok (.ifCond .eq 7, 3) := by decide +kernel
theorem dX8_isTask_23 : decode cX8_isTask 23 = .ok (.iconst 1, 1) := by decide +kernel
theorem dX8_isTask_24 : decode cX8_isTask 24 = .ok (.goto 4, 3) := by decide +kernel
theorem dX8_isTask_27 : decode cX8_isTask 27 = .ok (.iconst 0, 1) := by decide +kernel
theorem dX8_isTask_28 : decode cX8_isTask 28 = .ok (.ireturn, 1) := by decide +kernel
theorem dX8_task_0 : decode cX8_task 0 = .ok (.aload_n 0, 1) := by decide +kernel
theorem dX8_task_1 : decode cX8_task 1 = .ok (.iload_n 1, 1) := by decide +kernel
theorem dX8_task_2 : decode cX8_task 2 = .ok (.iload_n 2, 1) := by decide +kernel
theorem dX8_task_3 : decode cX8_task 3 = .ok (.iload_n 3, 1) := by decide +kernel
theorem dX8_task_4 : decode cX8_task 4 = .ok (.invokevirtual 168, 3) := by decide +kernel
theorem dX8_task_7 : decode cX8_task 7 = .ok (.ifCond .eq 17, 3) := by decide +kernel
theorem dX8_task_10 : decode cX8_task 10 = .ok (.aload_n 0, 1) := by decide +kernel
theorem dX8_task_11 : decode cX8_task 11 = .ok (.aload_n 0, 1) := by decide +kernel
theorem dX8_task_12 : decode cX8_task 12 = .ok (.iload_n 1, 1) := by decide +kernel
theorem dX8_task_13 : decode cX8_task 13 = .ok (.iload_n 2, 1) := by decide +kernel
theorem dX8_task_14 : decode cX8_task 14 = .ok (.iload_n 3, 1) := by decide +kernel
theorem dX8_task_15 : decode cX8_task 15 = .ok (.invokevirtual 171, 3) := by decide +kernel
theorem dX8_task_18 : decode cX8_task 18 = .ok (.invokevirtual 162, 3) := by decide +kernel
theorem dX8_task_21 : decode cX8_task 21 = .ok (.goto 8, 3) := by decide +kernel
theorem dX8_task_24 : decode cX8_task 24 = .ok (.aload_n 0, 1) := by decide +kernel
theorem dX8_task_25 : decode cX8_task 25 = .ok (.iconst 0, 1) := by decide +kernel
theorem dX8_task_26 : decode cX8_task 26 = .ok (.invokevirtual 74, 3) := by decide +kernel
theorem dX8_task_29 : decode cX8_task 29 = .ok (.ireturn, 1) := by decide +kernel
theorem dX8_begins_0 : decode cX8_begins 0 = .ok (.aload_n 0, 1) := by decide +kernel
theorem dX8_begins_1 : decode cX8_begins 1 = .ok (.iconst (-1), 1) := by decide +kernel
theorem dX8_begins_2 : decode cX8_begins 2 = .ok (.putfield 174, 3) := by decide +kernel
theorem dX8_begins_5 : decode cX8_begins 5 = .ok (.aload_n 0, 1) := by decide +kernel
theorem dX8_begins_6 : decode cX8_begins 6 = .ok (.iconst (-1), 1) := by decide +kernel
theorem dX8_begins_7 : decode cX8_begins 7 = .ok (.putfield 177, 3) := by decide +kernel
theorem dX8_begins_10 : decode cX8_begins 10 = .ok (.return_, 1) := by decide +kernel
theorem dX8_tries_0 : decode cX8_tries 0 = .ok (.iload_n 2, 1) := by decide +kernel
theorem dX8_tries_1 : decode cX8_tries 1 = .ok (.ifCond .lt 28, 3) := by decide +kernel
theorem dX8_tries_4 : decode cX8_tries 4 = .ok (.aload_n 0, 1) := by decide +kernel
theorem dX8_tries_5 : decode cX8_tries 5 = .ok (.getfield 174, 3) := by decide +kernel
theorem dX8_tries_8 : decode cX8_tries 8 = .ok (.ifCond .lt 11, 3) := by decide +kernel
theorem dX8_tries_11 : decode cX8_tries 11 = .ok (.iload_n 2, 1) := by decide +kernel
theorem dX8_tries_12 : decode cX8_tries 12 = .ok (.aload_n 0, 1) := by decide +kernel
theorem dX8_tries_13 : decode cX8_tries 13 = .ok (.getfield 177, 3) := by decide +kernel
theorem dX8_tries_16 : decode cX8_tries 16 = .ok (.if_icmp .ge 13, 3) := by decide +kernel
theorem dX8_tries_19 : decode cX8_tries 19 = .ok (.aload_n 0, 1) := by decide +kernel
theorem dX8_tries_20 : decode cX8_tries 20 = .ok (.iload_n 1, 1) := by decide +kernel
theorem dX8_tries_21 : decode cX8_tries 21 = .ok (.putfield 174, 3) := by decide +kernel
theorem dX8_tries_24 : decode cX8_tries 24 = .ok (.aload_n 0, 1) := by decide +kernel
theorem dX8_tries_25 : decode cX8_tries 25 = .ok (.iload_n 2, 1) := by decide +kernel
theorem dX8_tries_26 : decode cX8_tries 26 = .ok (.putfield 177, 3) := by decide +kernel
theorem dX8_tries_29 : decode cX8_tries 29 = .ok (.return_, 1) := by decide +kernel
theorem dX8_who_0 : decode cX8_who 0 = .ok (.aload_n 0, 1) := by decide +kernel
theorem dX8_who_1 : decode cX8_who 1 = .ok (.iload_n 1, 1) := by decide +kernel
theorem dX8_who_2 : decode cX8_who 2 = .ok (.invokevirtual 90, 3) := by decide +kernel
theorem dX8_who_5 : decode cX8_who 5 = .ok (.ifCond .eq 10, 3) := by decide +kernel
theorem dX8_who_8 : decode cX8_who 8 = .ok (.iload_n 2, 1) := by decide +kernel
theorem dX8_who_9 : decode cX8_who 9 = .ok (.invokestatic 70, 3) := by decide +kernel
theorem dX8_who_12 : decode cX8_who 12 = .ok (.ifCond .ne 9, 3) := by decide +kernel
theorem dX8_who_15 : decode cX8_who 15 = .ok (.aload_n 0, 1) := by decide +kernel
theorem dX8_who_16 : decode cX8_who 16 = .ok (.iconst 0, 1) := by decide +kernel
theorem dX8_who_17 : decode cX8_who 17 = .ok (.invokevirtual 74, 3) := by decide +kernel
theorem dX8_who_20 : decode cX8_who 20 = .ok (.ireturn, 1) := by decide +kernel
theorem dX8_who_21 : decode cX8_who 21 = .ok (.aload_n 0, 1) := by decide +kernel
theorem dX8_who_22 : decode cX8_who 22 = .ok (.invokevirtual 180, 3) := by decide +kernel
theorem dX8_who_25 : decode cX8_who 25 = .ok (.iconst 0, 1) := by decide +kernel
theorem dX8_who_26 : decode cX8_who 26 = .ok (.istore_n 3, 1) := by decide +kernel
theorem dX8_who_27 : decode cX8_who 27 = .ok (.iload_n 3, 1) := by decide +kernel
theorem dX8_who_28 : decode cX8_who 28 = .ok (.aload_n 0, 1) := by decide +kernel
theorem dX8_who_29 : decode cX8_who 29 = .ok (.getfield 9, 3) := by decide +kernel
theorem dX8_who_32 : decode cX8_who 32 = .ok (.bipush 12, 2) := by decide +kernel
theorem dX8_who_34 : decode cX8_who 34 = .ok (.iaload, 1) := by decide +kernel
theorem dX8_who_35 : decode cX8_who 35 = .ok (.if_icmp .ge 21, 3) := by decide +kernel
theorem dX8_who_38 : decode cX8_who 38 = .ok (.aload_n 0, 1) := by decide +kernel
theorem dX8_who_39 : decode cX8_who 39 = .ok (.iload_n 3, 1) := by decide +kernel
theorem dX8_who_40 : decode cX8_who 40 = .ok (.aload_n 0, 1) := by decide +kernel
theorem dX8_who_41 : decode cX8_who 41 = .ok (.iload_n 3, 1) := by decide +kernel
theorem dX8_who_42 : decode cX8_who 42 = .ok (.iload_n 1, 1) := by decide +kernel
theorem dX8_who_43 : decode cX8_who 43 = .ok (.iload_n 2, 1) := by decide +kernel
theorem dX8_who_44 : decode cX8_who 44 = .ok (.invokevirtual 171, 3) := by decide +kernel
theorem dX8_who_47 : decode cX8_who 47 = .ok (.invokevirtual 183, 3) := by decide +kernel
theorem dX8_who_50 : decode cX8_who 50 = .ok (.iinc 3 1, 3) := by decide +kernel
theorem dX8_who_53 : decode cX8_who 53 = .ok (.goto (-26), 3) := by decide +kernel
theorem dX8_who_56 : decode cX8_who 56 = .ok (.aload_n 0, 1) := by decide +kernel
theorem dX8_who_57 : decode cX8_who 57 = .ok (.aload_n 0, 1) := by decide +kernel
theorem dX8_who_58 : decode cX8_who 58 = .ok (.getfield 174, 3) := by decide +kernel
theorem dX8_who_61 : decode cX8_who 61 = .ok (.invokevirtual 162, 3) := by decide +kernel
theorem dX8_who_64 : decode cX8_who 64 = .ok (.ireturn, 1) := by decide +kernel
theorem dX8_roomsFor_0 : decode cX8_roomsFor 0 = .ok (.aload_n 0, 1) := by decide +kernel
theorem dX8_roomsFor_1 : decode cX8_roomsFor 1 = .ok (.iload_n 1, 1) := by decide +kernel
theorem dX8_roomsFor_2 : decode cX8_roomsFor 2 = .ok (.iload_n 2, 1) := by decide +kernel
theorem dX8_roomsFor_3 : decode cX8_roomsFor 3 = .ok (.iload_n 3, 1) := by decide +kernel
theorem dX8_roomsFor_4 : decode cX8_roomsFor 4 = .ok (.invokevirtual 159, 3) := by decide +kernel
theorem dX8_roomsFor_7 : decode cX8_roomsFor 7 = .ok (.iconst 0, 1) := by decide +kernel
theorem dX8_roomsFor_8 : decode cX8_roomsFor 8 = .ok (.istore 4, 2) := by decide +kernel
theorem dX8_roomsFor_10 : decode cX8_roomsFor 10 = .ok (.iconst 0, 1) := by decide +kernel
theorem dX8_roomsFor_11 : decode cX8_roomsFor 11 = .ok (.istore 5, 2) := by decide +kernel
theorem dX8_roomsFor_13 : decode cX8_roomsFor 13 = .ok (.iload 5, 2) := by decide +kernel
theorem dX8_roomsFor_15 : decode cX8_roomsFor 15 = .ok (.bipush 8, 2) := by decide +kernel
theorem dX8_roomsFor_17 : decode cX8_roomsFor 17 = .ok (.if_icmp .ge 31, 3) := by decide +kernel
theorem dX8_roomsFor_20 : decode cX8_roomsFor 20 = .ok (.iload 4, 2) := by decide +kernel
theorem dX8_roomsFor_22 : decode cX8_roomsFor 22 = .ok (.aload_n 0, 1) := by decide +kernel
theorem dX8_roomsFor_23 : decode cX8_roomsFor 23 = .ok (.iload 5, 2) := by decide +kernel
theorem dX8_roomsFor_25 : decode cX8_roomsFor 25 = .ok (.invokevirtual 165, 3) := by decide +kernel
theorem dX8_roomsFor_28 : decode cX8_roomsFor 28 = .ok (.ifCond .ge 7, 3) := by decide +kernel
theorem dX8_roomsFor_31 : decode cX8_roomsFor 31 = .ok (.iconst 0, 1) := by decide +kernel
theorem dX8_roomsFor_32 : decode cX8_roomsFor 32 = .ok (.goto 7, 3) := by decide +kernel
theorem dX8_roomsFor_35 : decode cX8_roomsFor 35 = .ok (.iconst 1, 1) := by decide +kernel
theorem dX8_roomsFor_36 : decode cX8_roomsFor 36 = .ok (.iload 5, 2) := by decide +kernel
theorem dX8_roomsFor_38 : decode cX8_roomsFor 38 = .ok (.ishl, 1) := by decide +kernel
theorem dX8_roomsFor_39 : decode cX8_roomsFor 39 = .ok (.ior, 1) := by decide +kernel
theorem dX8_roomsFor_40 : decode cX8_roomsFor 40 = .ok (.istore 4, 2) := by decide +kernel
theorem dX8_roomsFor_42 : decode cX8_roomsFor 42 = .ok (.iinc 5 1, 3) := by decide +kernel
theorem dX8_roomsFor_45 : decode cX8_roomsFor 45 = .ok (.goto (-32), 3) := by decide +kernel
theorem dX8_roomsFor_48 : decode cX8_roomsFor 48 = .ok (.iload 4, 2) := by decide +kernel
theorem dX8_roomsFor_50 : decode cX8_roomsFor 50 = .ok (.ireturn, 1) := by decide +kernel
theorem dX8_can_0 : decode cX8_can 0 = .ok (.aload_n 0, 1) := by decide +kernel
theorem dX8_can_1 : decode cX8_can 1 = .ok (.iload_n 1, 1) := by decide +kernel
theorem dX8_can_2 : decode cX8_can 2 = .ok (.invokevirtual 106, 3) := by decide +kernel
theorem dX8_can_5 : decode cX8_can 5 = .ok (.ifCond .eq 21, 3) := by decide +kernel
theorem dX8_can_8 : decode cX8_can 8 = .ok (.aload_n 0, 1) := by decide +kernel
theorem dX8_can_9 : decode cX8_can 9 = .ok (.iload_n 2, 1) := by decide +kernel
theorem dX8_can_10 : decode cX8_can 10 = .ok (.invokevirtual 90, 3) := by decide +kernel
theorem dX8_can_13 : decode cX8_can 13 = .ok (.ifCond .eq 13, 3) := by decide +kernel
theorem dX8_can_16 : decode cX8_can 16 = .ok (.aload_n 0, 1) := by decide +kernel
theorem dX8_can_17 : decode cX8_can 17 = .ok (.iload_n 1, 1) := by decide +kernel
theorem dX8_can_18 : decode cX8_can 18 = .ok (.iload_n 2, 1) := by decide +kernel
theorem dX8_can_19 : decode cX8_can 19 = .ok (.iconst 1, 1) := by decide +kernel
theorem dX8_can_20 : decode cX8_can 20 = .ok (.invokevirtual 186, 3) := by decide +kernel
theorem dX8_can_23 : decode cX8_can 23 = .ok (.goto 8, 3) := by decide +kernel
theorem dX8_can_26 : decode cX8_can 26 = .ok (.aload_n 0, 1) := by decide +kernel
theorem dX8_can_27 : decode cX8_can 27 = .ok (.iconst 0, 1) := by decide +kernel
theorem dX8_can_28 : decode cX8_can 28 = .ok (.invokevirtual 74, 3) := by decide +kernel
theorem dX8_can_31 : decode cX8_can 31 = .ok (.ireturn, 1) := by decide +kernel
theorem dX8_above__0 : decode cX8_above_ 0 = .ok (.aload_n 0, 1) := by decide +kernel
theorem dX8_above__1 : decode cX8_above_ 1 = .ok (.iload_n 1, 1) := by decide +kernel
theorem dX8_above__2 : decode cX8_above_ 2 = .ok (.invokevirtual 106, 3) := by decide +kernel
theorem dX8_above__5 : decode cX8_above_ 5 = .ok (.ifCond .eq 31, 3) := by decide +kernel
theorem dX8_above__8 : decode cX8_above_ 8 = .ok (.aload_n 0, 1) := by decide +kernel
theorem dX8_above__9 : decode cX8_above_ 9 = .ok (.iload_n 2, 1) := by decide +kernel
theorem dX8_above__10 : decode cX8_above_ 10 = .ok (.invokevirtual 90, 3) := by decide +kernel
theorem dX8_above__13 : decode cX8_above_ 13 = .ok (.ifCond .eq 23, 3) := by decide +kernel
theorem dX8_above__16 : decode cX8_above_ 16 = .ok (.aload_n 0, 1) := by decide +kernel
theorem dX8_above__17 : decode cX8_above_ 17 = .ok (.iload_n 1, 1) := by decide +kernel
theorem dX8_above__18 : decode cX8_above_ 18 = .ok (.iload_n 2, 1) := by decide +kernel
theorem dX8_above__19 : decode cX8_above_ 19 = .ok (.iconst 1, 1) := by decide +kernel
theorem dX8_above__20 : decode cX8_above_ 20 = .ok (.invokevirtual 186, 3) := by decide +kernel
theorem dX8_above__23 : decode cX8_above_ 23 = .ok (.aload_n 0, 1) := by decide +kernel
theorem dX8_above__24 : decode cX8_above_ 24 = .ok (.iload_n 1, 1) := by decide +kernel
theorem dX8_above__25 : decode cX8_above_ 25 = .ok (.iload_n 2, 1) := by decide +kernel
theorem dX8_above__26 : decode cX8_above_ 26 = .ok (.iconst 0, 1) := by decide +kernel
theorem dX8_above__27 : decode cX8_above_ 27 = .ok (.invokevirtual 186, 3) := by decide +kernel
theorem dX8_above__30 : decode cX8_above_ 30 = .ok (.iconst (-1), 1) := by decide +kernel
theorem dX8_above__31 : decode cX8_above_ 31 = .ok (.ixor, 1) := by decide +kernel
theorem dX8_above__32 : decode cX8_above_ 32 = .ok (.iand, 1) := by decide +kernel
theorem dX8_above__33 : decode cX8_above_ 33 = .ok (.goto 8, 3) := by decide +kernel
theorem dX8_above__36 : decode cX8_above_ 36 = .ok (.aload_n 0, 1) := by decide +kernel
theorem dX8_above__37 : decode cX8_above_ 37 = .ok (.iconst 0, 1) := by decide +kernel
theorem dX8_above__38 : decode cX8_above_ 38 = .ok (.invokevirtual 74, 3) := by decide +kernel
theorem dX8_above__41 : decode cX8_above_ 41 = .ok (.ireturn, 1) := by decide +kernel
theorem dX8_strong_0 : decode cX8_strong 0 = .ok (.aload_n 0, 1) := by decide +kernel
theorem dX8_strong_1 : decode cX8_strong 1 = .ok (.iload_n 1, 1) := by decide +kernel
theorem dX8_strong_2 : decode cX8_strong 2 = .ok (.iload_n 2, 1) := by decide +kernel
theorem dX8_strong_3 : decode cX8_strong 3 = .ok (.iload_n 3, 1) := by decide +kernel
theorem dX8_strong_4 : decode cX8_strong 4 = .ok (.invokevirtual 168, 3) := by decide +kernel
theorem dX8_strong_7 : decode cX8_strong 7 = .ok (.ifCond .ne 9, 3) := by decide +kernel
theorem dX8_strong_10 : decode cX8_strong 10 = .ok (.aload_n 0, 1) := by decide +kernel
theorem dX8_strong_11 : decode cX8_strong 11 = .ok (.iconst 0, 1) := by decide +kernel
theorem dX8_strong_12 : decode cX8_strong 12 = .ok (.invokevirtual 74, 3) := by decide +kernel
theorem dX8_strong_15 : decode cX8_strong 15 = .ok (.ireturn, 1) := by decide +kernel
theorem dX8_strong_16 : decode cX8_strong 16 = .ok (.aload_n 0, 1) := by decide +kernel
theorem dX8_strong_17 : decode cX8_strong 17 = .ok (.getfield 9, 3) := by decide +kernel
theorem dX8_strong_20 : decode cX8_strong 20 = .ok (.bipush 56, 2) := by decide +kernel
theorem dX8_strong_22 : decode cX8_strong 22 = .ok (.iload_n 1, 1) := by decide +kernel
theorem dX8_strong_23 : decode cX8_strong 23 = .ok (.iadd, 1) := by decide +kernel
theorem dX8_strong_24 : decode cX8_strong 24 = .ok (.iaload, 1) := by decide +kernel
theorem dX8_strong_25 : decode cX8_strong 25 = .ok (.istore 4, 2) := by decide +kernel
theorem dX8_strong_27 : decode cX8_strong 27 = .ok (.iconst 0, 1) := by decide +kernel
theorem dX8_strong_28 : decode cX8_strong 28 = .ok (.istore 5, 2) := by decide +kernel
theorem dX8_strong_30 : decode cX8_strong 30 = .ok (.aload_n 0, 1) := by decide +kernel
theorem dX8_strong_31 : decode cX8_strong 31 = .ok (.getfield 9, 3) := by decide +kernel
theorem dX8_strong_34 : decode cX8_strong 34 = .ok (.bipush 56, 2) := by decide +kernel
theorem dX8_strong_36 : decode cX8_strong 36 = .ok (.iload_n 1, 1) := by decide +kernel
theorem dX8_strong_37 : decode cX8_strong 37 = .ok (.iadd, 1) := by decide +kernel
theorem dX8_strong_38 : decode cX8_strong 38 = .ok (.iload 5, 2) := by decide +kernel
theorem dX8_strong_40 : decode cX8_strong 40 = .ok (.iastore, 1) := by decide +kernel
theorem dX8_strong_41 : decode cX8_strong 41 = .ok (.iload 5, 2) := by decide +kernel
theorem dX8_strong_43 : decode cX8_strong 43 = .ok (.bipush 60, 2) := by decide +kernel
theorem dX8_strong_45 : decode cX8_strong 45 = .ok (.if_icmp .gt 30, 3) := by decide +kernel
theorem dX8_strong_48 : decode cX8_strong 48 = .ok (.aload_n 0, 1) := by decide +kernel
theorem dX8_strong_49 : decode cX8_strong 49 = .ok (.iload_n 1, 1) := by decide +kernel
theorem dX8_strong_50 : decode cX8_strong 50 = .ok (.iload_n 2, 1) := by decide +kernel
theorem dX8_strong_51 : decode cX8_strong 51 = .ok (.iload_n 3, 1) := by decide +kernel
theorem dX8_strong_52 : decode cX8_strong 52 = .ok (.invokevirtual 171, 3) := by decide +kernel
theorem dX8_strong_55 : decode cX8_strong 55 = .ok (.ifCond .ge 20, 3) := by decide +kernel
theorem dX8_strong_58 : decode cX8_strong 58 = .ok (.iinc 5 1, 3) := by decide +kernel
theorem dX8_strong_61 : decode cX8_strong 61 = .ok (.aload_n 0, 1) := by decide +kernel
theorem dX8_strong_62 : decode cX8_strong 62 = .ok (.getfield 9, 3) := by decide +kernel
theorem dX8_strong_65 : decode cX8_strong 65 = .ok (.bipush 56, 2) := by decide +kernel
theorem dX8_strong_67 : decode cX8_strong 67 = .ok (.iload_n 1, 1) := by decide +kernel
theorem dX8_strong_68 : decode cX8_strong 68 = .ok (.iadd, 1) := by decide +kernel
theorem dX8_strong_69 : decode cX8_strong 69 = .ok (.iload 5, 2) := by decide +kernel
theorem dX8_strong_71 : decode cX8_strong 71 = .ok (.iastore, 1) := by decide +kernel
theorem dX8_strong_72 : decode cX8_strong 72 = .ok (.goto (-31), 3) := by decide +kernel
theorem dX8_strong_75 : decode cX8_strong 75 = .ok (.aload_n 0, 1) := by decide +kernel
theorem dX8_strong_76 : decode cX8_strong 76 = .ok (.getfield 9, 3) := by decide +kernel
theorem dX8_strong_79 : decode cX8_strong 79 = .ok (.bipush 56, 2) := by decide +kernel
theorem dX8_strong_81 : decode cX8_strong 81 = .ok (.iload_n 1, 1) := by decide +kernel
theorem dX8_strong_82 : decode cX8_strong 82 = .ok (.iadd, 1) := by decide +kernel
theorem dX8_strong_83 : decode cX8_strong 83 = .ok (.iload 4, 2) := by decide +kernel
theorem dX8_strong_85 : decode cX8_strong 85 = .ok (.iastore, 1) := by decide +kernel
theorem dX8_strong_86 : decode cX8_strong 86 = .ok (.iload 5, 2) := by decide +kernel
theorem dX8_strong_88 : decode cX8_strong 88 = .ok (.bipush 60, 2) := by decide +kernel
theorem dX8_strong_90 : decode cX8_strong 90 = .ok (.if_icmp .gt 8, 3) := by decide +kernel
theorem dX8_strong_93 : decode cX8_strong 93 = .ok (.iload 5, 2) := by decide +kernel
theorem dX8_strong_95 : decode cX8_strong 95 = .ok (.goto 8, 3) := by decide +kernel
theorem dX8_strong_98 : decode cX8_strong 98 = .ok (.aload_n 0, 1) := by decide +kernel
theorem dX8_strong_99 : decode cX8_strong 99 = .ok (.iconst 3, 1) := by decide +kernel
theorem dX8_strong_100 : decode cX8_strong 100 = .ok (.invokevirtual 74, 3) := by decide +kernel
theorem dX8_strong_103 : decode cX8_strong 103 = .ok (.ireturn, 1) := by decide +kernel
theorem dX8_kindFor_0 : decode cX8_kindFor 0 = .ok (.aload_n 0, 1) := by decide +kernel
theorem dX8_kindFor_1 : decode cX8_kindFor 1 = .ok (.iload_n 1, 1) := by decide +kernel
theorem dX8_kindFor_2 : decode cX8_kindFor 2 = .ok (.iload_n 2, 1) := by decide +kernel
theorem dX8_kindFor_3 : decode cX8_kindFor 3 = .ok (.iload_n 3, 1) := by decide +kernel
theorem dX8_kindFor_4 : decode cX8_kindFor 4 = .ok (.invokevirtual 168, 3) := by decide +kernel
theorem dX8_kindFor_7 : decode cX8_kindFor 7 = .ok (.ifCond .ne 9, 3) := by decide +kernel
theorem dX8_kindFor_10 : decode cX8_kindFor 10 = .ok (.aload_n 0, 1) := by decide +kernel
theorem dX8_kindFor_11 : decode cX8_kindFor 11 = .ok (.iconst 0, 1) := by decide +kernel
theorem dX8_kindFor_12 : decode cX8_kindFor 12 = .ok (.invokevirtual 74, 3) := by decide +kernel
theorem dX8_kindFor_15 : decode cX8_kindFor 15 = .ok (.ireturn, 1) := by decide +kernel
theorem dX8_kindFor_16 : decode cX8_kindFor 16 = .ok (.aload_n 0, 1) := by decide +kernel
theorem dX8_kindFor_17 : decode cX8_kindFor 17 = .ok (.getfield 9, 3) := by decide +kernel
theorem dX8_kindFor_20 : decode cX8_kindFor 20 = .ok (.bipush 28, 2) := by decide +kernel
theorem dX8_kindFor_22 : decode cX8_kindFor 22 = .ok (.iload_n 2, 1) := by decide +kernel
theorem dX8_kindFor_23 : decode cX8_kindFor 23 = .ok (.iadd, 1) := by decide +kernel
theorem dX8_kindFor_24 : decode cX8_kindFor 24 = .ok (.iaload, 1) := by decide +kernel
theorem dX8_kindFor_25 : decode cX8_kindFor 25 = .ok (.istore 4, 2) := by decide +kernel
theorem dX8_kindFor_27 : decode cX8_kindFor 27 = .ok (.aload_n 0, 1) := by decide +kernel
theorem dX8_kindFor_28 : decode cX8_kindFor 28 = .ok (.invokevirtual 180, 3) := by decide +kernel
theorem dX8_kindFor_31 : decode cX8_kindFor 31 = .ok (.iconst 0, 1) := by decide +kernel
theorem dX8_kindFor_32 : decode cX8_kindFor 32 = .ok (.istore 5, 2) := by decide +kernel
theorem dX8_kindFor_34 : decode cX8_kindFor 34 = .ok (.iload 5, 2) := by decide +kernel
theorem dX8_kindFor_36 : decode cX8_kindFor 36 = .ok (.bipush 7, 2) := by decide +kernel
theorem dX8_kindFor_38 : decode cX8_kindFor 38 = .ok (.if_icmp .ge 33, 3) := by decide +kernel
theorem dX8_kindFor_41 : decode cX8_kindFor 41 = .ok (.aload_n 0, 1) := by decide +kernel
theorem dX8_kindFor_42 : decode cX8_kindFor 42 = .ok (.getfield 9, 3) := by decide +kernel
theorem dX8_kindFor_45 : decode cX8_kindFor 45 = .ok (.bipush 28, 2) := by decide +kernel
theorem dX8_kindFor_47 : decode cX8_kindFor 47 = .ok (.iload_n 2, 1) := by decide +kernel
theorem dX8_kindFor_48 : decode cX8_kindFor 48 = .ok (.iadd, 1) := by decide +kernel
theorem dX8_kindFor_49 : decode cX8_kindFor 49 = .ok (.iload 5, 2) := by decide +kernel
theorem dX8_kindFor_51 : decode cX8_kindFor 51 = .ok (.iastore, 1) := by decide +kernel
theorem dX8_kindFor_52 : decode cX8_kindFor 52 = .ok (.aload_n 0, 1) := by decide +kernel
theorem dX8_kindFor_53 : decode cX8_kindFor 53 = .ok (.iload 5, 2) := by decide +kernel
theorem dX8_kindFor_55 : decode cX8_kindFor 55 = .ok (.aload_n 0, 1) := by decide +kernel
theorem dX8_kindFor_56 : decode cX8_kindFor 56 = .ok (.iload_n 1, 1) := by decide +kernel
theorem dX8_kindFor_57 : decode cX8_kindFor 57 = .ok (.iload_n 2, 1) := by decide +kernel
theorem dX8_kindFor_58 : decode cX8_kindFor 58 = .ok (.iload_n 3, 1) := by decide +kernel
theorem dX8_kindFor_59 : decode cX8_kindFor 59 = .ok (.invokevirtual 171, 3) := by decide +kernel
theorem dX8_kindFor_62 : decode cX8_kindFor 62 = .ok (.invokevirtual 183, 3) := by decide +kernel
theorem dX8_kindFor_65 : decode cX8_kindFor 65 = .ok (.iinc 5 1, 3) := by decide +kernel
theorem dX8_kindFor_68 : decode cX8_kindFor 68 = .ok (.goto (-34), 3) := by decide +kernel
theorem dX8_kindFor_71 : decode cX8_kindFor 71 = .ok (.aload_n 0, 1) := by decide +kernel
theorem dX8_kindFor_72 : decode cX8_kindFor 72 = .ok (.getfield 9, 3) := by decide +kernel
theorem dX8_kindFor_75 : decode cX8_kindFor 75 = .ok (.bipush 28, 2) := by decide +kernel
theorem dX8_kindFor_77 : decode cX8_kindFor 77 = .ok (.iload_n 2, 1) := by decide +kernel
theorem dX8_kindFor_78 : decode cX8_kindFor 78 = .ok (.iadd, 1) := by decide +kernel
theorem dX8_kindFor_79 : decode cX8_kindFor 79 = .ok (.iload 4, 2) := by decide +kernel
theorem dX8_kindFor_81 : decode cX8_kindFor 81 = .ok (.iastore, 1) := by decide +kernel
theorem dX8_kindFor_82 : decode cX8_kindFor 82 = .ok (.aload_n 0, 1) := by decide +kernel
theorem dX8_kindFor_83 : decode cX8_kindFor 83 = .ok (.aload_n 0, 1) := by decide +kernel
theorem dX8_kindFor_84 : decode cX8_kindFor 84 = .ok (.getfield 174, 3) := by decide +kernel
theorem dX8_kindFor_87 : decode cX8_kindFor 87 = .ok (.invokevirtual 162, 3) := by decide +kernel
theorem dX8_kindFor_90 : decode cX8_kindFor 90 = .ok (.ireturn, 1) := by decide +kernel
theorem dX8_place_0 : decode cX8_place 0 = .ok (.aload_n 0, 1) := by decide +kernel
theorem dX8_place_1 : decode cX8_place 1 = .ok (.iload_n 1, 1) := by decide +kernel
theorem dX8_place_2 : decode cX8_place 2 = .ok (.iload_n 2, 1) := by decide +kernel
theorem dX8_place_3 : decode cX8_place 3 = .ok (.iload_n 3, 1) := by decide +kernel
theorem dX8_place_4 : decode cX8_place 4 = .ok (.invokevirtual 168, 3) := by decide +kernel
theorem dX8_place_7 : decode cX8_place 7 = .ok (.ifCond .ne 9, 3) := by decide +kernel
theorem dX8_place_10 : decode cX8_place 10 = .ok (.aload_n 0, 1) := by decide +kernel
theorem dX8_place_11 : decode cX8_place 11 = .ok (.iconst 0, 1) := by decide +kernel
theorem dX8_place_12 : decode cX8_place 12 = .ok (.invokevirtual 74, 3) := by decide +kernel
theorem dX8_place_15 : decode cX8_place 15 = .ok (.ireturn, 1) := by decide +kernel
theorem dX8_place_16 : decode cX8_place 16 = .ok (.aload_n 0, 1) := by decide +kernel
theorem dX8_place_17 : decode cX8_place 17 = .ok (.getfield 9, 3) := by decide +kernel
theorem dX8_place_20 : decode cX8_place 20 = .ok (.bipush 8, 2) := by decide +kernel
theorem dX8_place_22 : decode cX8_place 22 = .ok (.iaload, 1) := by decide +kernel
theorem dX8_place_23 : decode cX8_place 23 = .ok (.istore 4, 2) := by decide +kernel
theorem dX8_place_25 : decode cX8_place 25 = .ok (.aload_n 0, 1) := by decide +kernel
theorem dX8_place_26 : decode cX8_place 26 = .ok (.invokevirtual 180, 3) := by decide +kernel
theorem dX8_place_29 : decode cX8_place 29 = .ok (.iconst 0, 1) := by decide +kernel
theorem dX8_place_30 : decode cX8_place 30 = .ok (.istore 5, 2) := by decide +kernel
theorem dX8_place_32 : decode cX8_place 32 = .ok (.iload 5, 2) := by decide +kernel
theorem dX8_place_34 : decode cX8_place 34 = .ok (.bipush 8, 2) := by decide +kernel
theorem dX8_place_36 : decode cX8_place 36 = .ok (.if_icmp .ge 31, 3) := by decide +kernel
theorem dX8_place_39 : decode cX8_place 39 = .ok (.aload_n 0, 1) := by decide +kernel
theorem dX8_place_40 : decode cX8_place 40 = .ok (.getfield 9, 3) := by decide +kernel
theorem dX8_place_43 : decode cX8_place 43 = .ok (.bipush 8, 2) := by decide +kernel
theorem dX8_place_45 : decode cX8_place 45 = .ok (.iload 5, 2) := by decide +kernel
theorem dX8_place_47 : decode cX8_place 47 = .ok (.iastore, 1) := by decide +kernel
theorem dX8_place_48 : decode cX8_place 48 = .ok (.aload_n 0, 1) := by decide +kernel
theorem dX8_place_49 : decode cX8_place 49 = .ok (.iload 5, 2) := by decide +kernel
theorem dX8_place_51 : decode cX8_place 51 = .ok (.aload_n 0, 1) := by decide +kernel
theorem dX8_place_52 : decode cX8_place 52 = .ok (.iload_n 1, 1) := by decide +kernel
theorem dX8_place_53 : decode cX8_place 53 = .ok (.iload_n 2, 1) := by decide +kernel
theorem dX8_place_54 : decode cX8_place 54 = .ok (.iload_n 3, 1) := by decide +kernel
theorem dX8_place_55 : decode cX8_place 55 = .ok (.invokevirtual 171, 3) := by decide +kernel
theorem dX8_place_58 : decode cX8_place 58 = .ok (.invokevirtual 183, 3) := by decide +kernel
theorem dX8_place_61 : decode cX8_place 61 = .ok (.iinc 5 1, 3) := by decide +kernel
theorem dX8_place_64 : decode cX8_place 64 = .ok (.goto (-32), 3) := by decide +kernel
theorem dX8_place_67 : decode cX8_place 67 = .ok (.aload_n 0, 1) := by decide +kernel
theorem dX8_place_68 : decode cX8_place 68 = .ok (.getfield 9, 3) := by decide +kernel
theorem dX8_place_71 : decode cX8_place 71 = .ok (.bipush 8, 2) := by decide +kernel
theorem dX8_place_73 : decode cX8_place 73 = .ok (.iload 4, 2) := by decide +kernel
theorem dX8_place_75 : decode cX8_place 75 = .ok (.iastore, 1) := by decide +kernel
theorem dX8_place_76 : decode cX8_place 76 = .ok (.aload_n 0, 1) := by decide +kernel
theorem dX8_place_77 : decode cX8_place 77 = .ok (.aload_n 0, 1) := by decide +kernel
theorem dX8_place_78 : decode cX8_place 78 = .ok (.getfield 174, 3) := by decide +kernel
theorem dX8_place_81 : decode cX8_place 81 = .ok (.invokevirtual 162, 3) := by decide +kernel
theorem dX8_place_84 : decode cX8_place 84 = .ok (.ireturn, 1) := by decide +kernel
theorem dX8_isSafe_0 : decode cX8_isSafe 0 = .ok (.iconst 0, 1) := by decide +kernel
theorem dX8_isSafe_1 : decode cX8_isSafe 1 = .ok (.istore_n 2, 1) := by decide +kernel
theorem dX8_isSafe_2 : decode cX8_isSafe 2 = .ok (.iload_n 2, 1) := by decide +kernel
theorem dX8_isSafe_3 : decode cX8_isSafe 3 = .ok (.aload_n 0, 1) := by decide +kernel
theorem dX8_isSafe_4 : decode cX8_isSafe 4 = .ok (.getfield 9, 3) := by decide +kernel
theorem dX8_isSafe_7 : decode cX8_isSafe 7 = .ok (.bipush 12, 2) := by decide +kernel
theorem dX8_isSafe_9 : decode cX8_isSafe 9 = .ok (.iaload, 1) := by decide +kernel
theorem dX8_isSafe_10 : decode cX8_isSafe 10 = .ok (.if_icmp .ge 50, 3) := by decide +kernel
theorem dX8_isSafe_13 : decode cX8_isSafe 13 = .ok (.iconst 0, 1) := by decide +kernel
theorem dX8_isSafe_14 : decode cX8_isSafe 14 = .ok (.istore_n 3, 1) := by decide +kernel
theorem dX8_isSafe_15 : decode cX8_isSafe 15 = .ok (.iload_n 3, 1) := by decide +kernel
theorem dX8_isSafe_16 : decode cX8_isSafe 16 = .ok (.aload_n 0, 1) := by decide +kernel
theorem dX8_isSafe_17 : decode cX8_isSafe 17 = .ok (.getfield 9, 3) := by decide +kernel
theorem dX8_isSafe_20 : decode cX8_isSafe 20 = .ok (.bipush 11, 2) := by decide +kernel
theorem dX8_isSafe_22 : decode cX8_isSafe 22 = .ok (.iaload, 1) := by decide +kernel
theorem dX8_isSafe_23 : decode cX8_isSafe 23 = .ok (.if_icmp .ge 31, 3) := by decide +kernel
theorem dX8_isSafe_26 : decode cX8_isSafe 26 = .ok (.aload_n 0, 1) := by decide +kernel
theorem dX8_isSafe_27 : decode cX8_isSafe 27 = .ok (.iload_n 2, 1) := by decide +kernel
theorem dX8_isSafe_28 : decode cX8_isSafe 28 = .ok (.iload_n 3, 1) := by decide +kernel
theorem dX8_isSafe_29 : decode cX8_isSafe 29 = .ok (.iload_n 1, 1) := by decide +kernel
theorem dX8_isSafe_30 : decode cX8_isSafe 30 = .ok (.invokevirtual 129, 3) := by decide +kernel
theorem dX8_isSafe_33 : decode cX8_isSafe 33 = .ok (.ifCond .ne 13, 3) := by decide +kernel
theorem dX8_isSafe_36 : decode cX8_isSafe 36 = .ok (.aload_n 0, 1) := by decide +kernel
theorem dX8_isSafe_37 : decode cX8_isSafe 37 = .ok (.iload_n 2, 1) := by decide +kernel
theorem dX8_isSafe_38 : decode cX8_isSafe 38 = .ok (.iload_n 3, 1) := by decide +kernel
theorem dX8_isSafe_39 : decode cX8_isSafe 39 = .ok (.iload_n 1, 1) := by decide +kernel
theorem dX8_isSafe_40 : decode cX8_isSafe 40 = .ok (.invokevirtual 140, 3) := by decide +kernel
theorem dX8_isSafe_43 : decode cX8_isSafe 43 = .ok (.ifCond .eq 5, 3) := by decide +kernel
theorem dX8_isSafe_46 : decode cX8_isSafe 46 = .ok (.iconst 0, 1) := by decide +kernel
theorem dX8_isSafe_47 : decode cX8_isSafe 47 = .ok (.ireturn, 1) := by decide +kernel
theorem dX8_isSafe_48 : decode cX8_isSafe 48 = .ok (.iinc 3 1, 3) := by decide +kernel
theorem dX8_isSafe_51 : decode cX8_isSafe 51 = .ok (.goto (-36), 3) := by decide +kernel
theorem dX8_isSafe_54 : decode cX8_isSafe 54 = .ok (.iinc 2 1, 3) := by decide +kernel
theorem dX8_isSafe_57 : decode cX8_isSafe 57 = .ok (.goto (-55), 3) := by decide +kernel
theorem dX8_isSafe_60 : decode cX8_isSafe 60 = .ok (.iconst 1, 1) := by decide +kernel
theorem dX8_isSafe_61 : decode cX8_isSafe 61 = .ok (.ireturn, 1) := by decide +kernel
theorem dX8_safe_0 : decode cX8_safe 0 = .ok (.iconst 0, 1) := by decide +kernel
theorem dX8_safe_1 : decode cX8_safe 1 = .ok (.istore_n 1, 1) := by decide +kernel
theorem dX8_safe_2 : decode cX8_safe 2 = .ok (.iconst 0, 1) := by decide +kernel
theorem dX8_safe_3 : decode cX8_safe 3 = .ok (.istore_n 2, 1) := by decide +kernel
theorem dX8_safe_4 : decode cX8_safe 4 = .ok (.iload_n 2, 1) := by decide +kernel
theorem dX8_safe_5 : decode cX8_safe 5 = .ok (.bipush 8, 2) := by decide +kernel
theorem dX8_safe_7 : decode cX8_safe 7 = .ok (.if_icmp .ge 27, 3) := by decide +kernel
theorem dX8_safe_10 : decode cX8_safe 10 = .ok (.iload_n 1, 1) := by decide +kernel
theorem dX8_safe_11 : decode cX8_safe 11 = .ok (.aload_n 0, 1) := by decide +kernel
theorem dX8_safe_12 : decode cX8_safe 12 = .ok (.iload_n 2, 1) := by decide +kernel
theorem dX8_safe_13 : decode cX8_safe 13 = .ok (.invokevirtual 190, 3) := by decide +kernel
theorem dX8_safe_16 : decode cX8_safe 16 = .ok (.ifCond .eq 9, 3) := by decide +kernel
theorem dX8_safe_19 : decode cX8_safe 19 = .ok (.iconst 1, 1) := by decide +kernel
theorem dX8_safe_20 : decode cX8_safe 20 = .ok (.iload_n 2, 1) := by decide +kernel
theorem dX8_safe_21 : decode cX8_safe 21 = .ok (.ishl, 1) := by decide +kernel
theorem dX8_safe_22 : decode cX8_safe 22 = .ok (.goto 4, 3) := by decide +kernel
theorem dX8_safe_25 : decode cX8_safe 25 = .ok (.iconst 0, 1) := by decide +kernel
theorem dX8_safe_26 : decode cX8_safe 26 = .ok (.ior, 1) := by decide +kernel
theorem dX8_safe_27 : decode cX8_safe 27 = .ok (.istore_n 1, 1) := by decide +kernel
theorem dX8_safe_28 : decode cX8_safe 28 = .ok (.iinc 2 1, 3) := by decide +kernel
theorem dX8_safe_31 : decode cX8_safe 31 = .ok (.goto (-27), 3) := by decide +kernel
theorem dX8_safe_34 : decode cX8_safe 34 = .ok (.iload_n 1, 1) := by decide +kernel
theorem dX8_safe_35 : decode cX8_safe 35 = .ok (.ireturn, 1) := by decide +kernel
theorem dX8_selves_0 : decode cX8_selves 0 = .ok (.iconst 0, 1) := by decide +kernel
theorem dX8_selves_1 : decode cX8_selves 1 = .ok (.istore_n 1, 1) := by decide +kernel
theorem dX8_selves_2 : decode cX8_selves 2 = .ok (.iconst 0, 1) := by decide +kernel
theorem dX8_selves_3 : decode cX8_selves 3 = .ok (.istore_n 2, 1) := by decide +kernel
theorem dX8_selves_4 : decode cX8_selves 4 = .ok (.iload_n 2, 1) := by decide +kernel
theorem dX8_selves_5 : decode cX8_selves 5 = .ok (.aload_n 0, 1) := by decide +kernel
theorem dX8_selves_6 : decode cX8_selves 6 = .ok (.getfield 9, 3) := by decide +kernel
theorem dX8_selves_9 : decode cX8_selves 9 = .ok (.bipush 12, 2) := by decide +kernel
theorem dX8_selves_11 : decode cX8_selves 11 = .ok (.iaload, 1) := by decide +kernel
theorem dX8_selves_12 : decode cX8_selves 12 = .ok (.if_icmp .ge 52, 3) := by decide +kernel
theorem dX8_selves_15 : decode cX8_selves 15 = .ok (.iconst 0, 1) := by decide +kernel
theorem dX8_selves_16 : decode cX8_selves 16 = .ok (.istore_n 3, 1) := by decide +kernel
theorem dX8_selves_17 : decode cX8_selves 17 = .ok (.iload_n 3, 1) := by decide +kernel
theorem dX8_selves_18 : decode cX8_selves 18 = .ok (.aload_n 0, 1) := by decide +kernel
theorem dX8_selves_19 : decode cX8_selves 19 = .ok (.getfield 9, 3) := by decide +kernel
theorem dX8_selves_22 : decode cX8_selves 22 = .ok (.bipush 11, 2) := by decide +kernel
theorem dX8_selves_24 : decode cX8_selves 24 = .ok (.iaload, 1) := by decide +kernel
theorem dX8_selves_25 : decode cX8_selves 25 = .ok (.if_icmp .ge 33, 3) := by decide +kernel
theorem dX8_selves_28 : decode cX8_selves 28 = .ok (.iload_n 1, 1) := by decide +kernel
theorem dX8_selves_29 : decode cX8_selves 29 = .ok (.aload_n 0, 1) := by decide +kernel
theorem dX8_selves_30 : decode cX8_selves 30 = .ok (.iload_n 2, 1) := by decide +kernel
theorem dX8_selves_31 : decode cX8_selves 31 = .ok (.iload_n 3, 1) := by decide +kernel
theorem dX8_selves_32 : decode cX8_selves 32 = .ok (.aload_n 0, 1) := by decide +kernel
theorem dX8_selves_33 : decode cX8_selves 33 = .ok (.iload_n 2, 1) := by decide +kernel
theorem dX8_selves_34 : decode cX8_selves 34 = .ok (.invokevirtual 109, 3) := by decide +kernel
theorem dX8_selves_37 : decode cX8_selves 37 = .ok (.invokevirtual 140, 3) := by decide +kernel
theorem dX8_selves_40 : decode cX8_selves 40 = .ok (.ifCond .eq 9, 3) := by decide +kernel
theorem dX8_selves_43 : decode cX8_selves 43 = .ok (.iconst 1, 1) := by decide +kernel
theorem dX8_selves_44 : decode cX8_selves 44 = .ok (.iload_n 2, 1) := by decide +kernel
theorem dX8_selves_45 : decode cX8_selves 45 = .ok (.ishl, 1) := by decide +kernel
theorem dX8_selves_46 : decode cX8_selves 46 = .ok (.goto 4, 3) := by decide +kernel
theorem dX8_selves_49 : decode cX8_selves 49 = .ok (.iconst 0, 1) := by decide +kernel
theorem dX8_selves_50 : decode cX8_selves 50 = .ok (.ior, 1) := by decide +kernel
theorem dX8_selves_51 : decode cX8_selves 51 = .ok (.istore_n 1, 1) := by decide +kernel
theorem dX8_selves_52 : decode cX8_selves 52 = .ok (.iinc 3 1, 3) := by decide +kernel
theorem dX8_selves_55 : decode cX8_selves 55 = .ok (.goto (-38), 3) := by decide +kernel
theorem dX8_selves_58 : decode cX8_selves 58 = .ok (.iinc 2 1, 3) := by decide +kernel
theorem dX8_selves_61 : decode cX8_selves 61 = .ok (.goto (-57), 3) := by decide +kernel
theorem dX8_selves_64 : decode cX8_selves 64 = .ok (.iload_n 1, 1) := by decide +kernel
theorem dX8_selves_65 : decode cX8_selves 65 = .ok (.ireturn, 1) := by decide +kernel
theorem dX8_reaches_0 : decode cX8_reaches 0 = .ok (.aload_n 0, 1) := by decide +kernel
theorem dX8_reaches_1 : decode cX8_reaches 1 = .ok (.iload_n 1, 1) := by decide +kernel
theorem dX8_reaches_2 : decode cX8_reaches 2 = .ok (.iload_n 2, 1) := by decide +kernel
theorem dX8_reaches_3 : decode cX8_reaches 3 = .ok (.bipush 10, 2) := by decide +kernel
theorem dX8_reaches_5 : decode cX8_reaches 5 = .ok (.irem, 1) := by decide +kernel
theorem dX8_reaches_6 : decode cX8_reaches 6 = .ok (.iload_n 2, 1) := by decide +kernel
theorem dX8_reaches_7 : decode cX8_reaches 7 = .ok (.bipush 10, 2) := by decide +kernel
theorem dX8_reaches_9 : decode cX8_reaches 9 = .ok (.idiv, 1) := by decide +kernel
theorem dX8_reaches_10 : decode cX8_reaches 10 = .ok (.invokevirtual 140, 3) := by decide +kernel
theorem dX8_reaches_13 : decode cX8_reaches 13 = .ok (.ifCond .eq 19, 3) := by decide +kernel
theorem dX8_reaches_16 : decode cX8_reaches 16 = .ok (.aload_n 0, 1) := by decide +kernel
theorem dX8_reaches_17 : decode cX8_reaches 17 = .ok (.getfield 9, 3) := by decide +kernel
theorem dX8_reaches_20 : decode cX8_reaches 20 = .ok (.bipush 36, 2) := by decide +kernel
theorem dX8_reaches_22 : decode cX8_reaches 22 = .ok (.iload_n 2, 1) := by decide +kernel
theorem dX8_reaches_23 : decode cX8_reaches 23 = .ok (.bipush 10, 2) := by decide +kernel
theorem dX8_reaches_25 : decode cX8_reaches 25 = .ok (.irem, 1) := by decide +kernel
theorem dX8_reaches_26 : decode cX8_reaches 26 = .ok (.iadd, 1) := by decide +kernel
theorem dX8_reaches_27 : decode cX8_reaches 27 = .ok (.iload_n 2, 1) := by decide +kernel
theorem dX8_reaches_28 : decode cX8_reaches 28 = .ok (.bipush 10, 2) := by decide +kernel
theorem dX8_reaches_30 : decode cX8_reaches 30 = .ok (.idiv, 1) := by decide +kernel
theorem dX8_reaches_31 : decode cX8_reaches 31 = .ok (.iastore, 1) := by decide +kernel
theorem dX8_reaches_32 : decode cX8_reaches 32 = .ok (.return_, 1) := by decide +kernel
theorem dX8_isReach_0 : decode cX8_isReach 0 = .ok (.iload_n 1, 1) := by decide +kernel
theorem dX8_isReach_1 : decode cX8_isReach 1 = .ok (.ifCond .lt 28, 3) := by decide +kernel
theorem dX8_isReach_4 : decode cX8_isReach 4 = .ok (.aload_n 0, 1) := by decide +kernel
theorem dX8_isReach_5 : decode cX8_isReach 5 = .ok (.iload_n 1, 1) := by decide +kernel
theorem dX8_isReach_6 : decode cX8_isReach 6 = .ok (.bipush 10, 2) := by decide +kernel
theorem dX8_isReach_8 : decode cX8_isReach 8 = .ok (.irem, 1) := by decide +kernel
theorem dX8_isReach_9 : decode cX8_isReach 9 = .ok (.invokevirtual 90, 3) := by decide +kernel
theorem dX8_isReach_12 : decode cX8_isReach 12 = .ok (.ifCond .eq 17, 3) := by decide +kernel
theorem dX8_isReach_15 : decode cX8_isReach 15 = .ok (.iload_n 1, 1) := by decide +kernel
theorem dX8_isReach_16 : decode cX8_isReach 16 = .ok (.bipush 10, 2) := by decide +kernel
theorem dX8_isReach_18 : decode cX8_isReach 18 = .ok (.idiv, 1) := by decide +kernel
theorem dX8_isReach_19 : decode cX8_isReach 19 = .ok (.invokestatic 70, 3) := by decide +kernel
theorem dX8_isReach_22 : decode cX8_isReach 22 = .ok (.ifCond .eq 7, 3) := by decide +kernel
theorem dX8_isReach_25 : decode cX8_isReach 25 = .ok (.iconst 1, 1) := by decide +kernel
theorem dX8_isReach_26 : decode cX8_isReach 26 = .ok (.goto 4, 3) := by decide +kernel
theorem dX8_isReach_29 : decode cX8_isReach 29 = .ok (.iconst 0, 1) := by decide +kernel
theorem dX8_isReach_30 : decode cX8_isReach 30 = .ok (.ireturn, 1) := by decide +kernel
theorem dX8_agree_0 : decode cX8_agree 0 = .ok (.aload_n 0, 1) := by decide +kernel
theorem dX8_agree_1 : decode cX8_agree 1 = .ok (.iload_n 1, 1) := by decide +kernel
theorem dX8_agree_2 : decode cX8_agree 2 = .ok (.invokevirtual 106, 3) := by decide +kernel
theorem dX8_agree_5 : decode cX8_agree 5 = .ok (.ifCond .eq 33, 3) := by decide +kernel
theorem dX8_agree_8 : decode cX8_agree 8 = .ok (.aload_n 0, 1) := by decide +kernel
theorem dX8_agree_9 : decode cX8_agree 9 = .ok (.iload_n 3, 1) := by decide +kernel
theorem dX8_agree_10 : decode cX8_agree 10 = .ok (.invokevirtual 106, 3) := by decide +kernel
theorem dX8_agree_13 : decode cX8_agree 13 = .ok (.ifCond .eq 25, 3) := by decide +kernel
theorem dX8_agree_16 : decode cX8_agree 16 = .ok (.iload_n 1, 1) := by decide +kernel
theorem dX8_agree_17 : decode cX8_agree 17 = .ok (.iload_n 3, 1) := by decide +kernel
theorem dX8_agree_18 : decode cX8_agree 18 = .ok (.if_icmp .eq 20, 3) := by decide +kernel
theorem dX8_agree_21 : decode cX8_agree 21 = .ok (.aload_n 0, 1) := by decide +kernel
theorem dX8_agree_22 : decode cX8_agree 22 = .ok (.iload_n 2, 1) := by decide +kernel
theorem dX8_agree_23 : decode cX8_agree 23 = .ok (.invokevirtual 193, 3) := by decide +kernel
theorem dX8_agree_26 : decode cX8_agree 26 = .ok (.ifCond .eq 12, 3) := by decide +kernel
theorem dX8_agree_29 : decode cX8_agree 29 = .ok (.aload_n 0, 1) := by decide +kernel
theorem dX8_agree_30 : decode cX8_agree 30 = .ok (.iload 4, 2) := by decide +kernel
theorem dX8_agree_32 : decode cX8_agree 32 = .ok (.invokevirtual 193, 3) := by decide +kernel
theorem dX8_agree_35 : decode cX8_agree 35 = .ok (.ifCond .ne 9, 3) := by decide +kernel
theorem dX8_agree_38 : decode cX8_agree 38 = .ok (.aload_n 0, 1) := by decide +kernel
theorem dX8_agree_39 : decode cX8_agree 39 = .ok (.iconst 0, 1) := by decide +kernel
theorem dX8_agree_40 : decode cX8_agree 40 = .ok (.invokevirtual 74, 3) := by decide +kernel
theorem dX8_agree_43 : decode cX8_agree 43 = .ok (.ireturn, 1) := by decide +kernel
theorem dX8_agree_44 : decode cX8_agree 44 = .ok (.aload_n 0, 1) := by decide +kernel
theorem dX8_agree_45 : decode cX8_agree 45 = .ok (.invokevirtual 196, 3) := by decide +kernel
theorem dX8_agree_48 : decode cX8_agree 48 = .ok (.aload_n 0, 1) := by decide +kernel
theorem dX8_agree_49 : decode cX8_agree 49 = .ok (.iload_n 1, 1) := by decide +kernel
theorem dX8_agree_50 : decode cX8_agree 50 = .ok (.iload_n 2, 1) := by decide +kernel
theorem dX8_agree_51 : decode cX8_agree 51 = .ok (.invokevirtual 199, 3) := by decide +kernel
theorem dX8_agree_54 : decode cX8_agree 54 = .ok (.aload_n 0, 1) := by decide +kernel
theorem dX8_agree_55 : decode cX8_agree 55 = .ok (.iload_n 3, 1) := by decide +kernel
theorem dX8_agree_56 : decode cX8_agree 56 = .ok (.iload 4, 2) := by decide +kernel
theorem dX8_agree_58 : decode cX8_agree 58 = .ok (.invokevirtual 199, 3) := by decide +kernel
theorem dX8_agree_61 : decode cX8_agree 61 = .ok (.aload_n 0, 1) := by decide +kernel
theorem dX8_agree_62 : decode cX8_agree 62 = .ok (.getfield 9, 3) := by decide +kernel
theorem dX8_agree_65 : decode cX8_agree 65 = .ok (.bipush 36, 2) := by decide +kernel
theorem dX8_agree_67 : decode cX8_agree 67 = .ok (.iload_n 2, 1) := by decide +kernel
theorem dX8_agree_68 : decode cX8_agree 68 = .ok (.bipush 10, 2) := by decide +kernel
theorem dX8_agree_70 : decode cX8_agree 70 = .ok (.irem, 1) := by decide +kernel
theorem dX8_agree_71 : decode cX8_agree 71 = .ok (.iadd, 1) := by decide +kernel
theorem dX8_agree_72 : decode cX8_agree 72 = .ok (.iaload, 1) := by decide +kernel
theorem dX8_agree_73 : decode cX8_agree 73 = .ok (.istore 5, 2) := by decide +kernel
theorem dX8_agree_75 : decode cX8_agree 75 = .ok (.aload_n 0, 1) := by decide +kernel
theorem dX8_agree_76 : decode cX8_agree 76 = .ok (.getfield 9, 3) := by decide +kernel
theorem dX8_agree_79 : decode cX8_agree 79 = .ok (.bipush 36, 2) := by decide +kernel
theorem dX8_agree_81 : decode cX8_agree 81 = .ok (.iload 4, 2) := by decide +kernel
theorem dX8_agree_83 : decode cX8_agree 83 = .ok (.bipush 10, 2) := by decide +kernel
theorem dX8_agree_85 : decode cX8_agree 85 = .ok (.irem, 1) := by decide +kernel
theorem dX8_agree_86 : decode cX8_agree 86 = .ok (.iadd, 1) := by decide +kernel
theorem dX8_agree_87 : decode cX8_agree 87 = .ok (.iaload, 1) := by decide +kernel
theorem dX8_agree_88 : decode cX8_agree 88 = .ok (.istore 6, 2) := by decide +kernel
theorem dX8_agree_90 : decode cX8_agree 90 = .ok (.aload_n 0, 1) := by decide +kernel
theorem dX8_agree_91 : decode cX8_agree 91 = .ok (.invokevirtual 202, 3) := by decide +kernel
theorem dX8_agree_94 : decode cX8_agree 94 = .ok (.aload_n 0, 1) := by decide +kernel
theorem dX8_agree_95 : decode cX8_agree 95 = .ok (.iload_n 3, 1) := by decide +kernel
theorem dX8_agree_96 : decode cX8_agree 96 = .ok (.iload 4, 2) := by decide +kernel
theorem dX8_agree_98 : decode cX8_agree 98 = .ok (.invokevirtual 199, 3) := by decide +kernel
theorem dX8_agree_101 : decode cX8_agree 101 = .ok (.aload_n 0, 1) := by decide +kernel
theorem dX8_agree_102 : decode cX8_agree 102 = .ok (.iload_n 1, 1) := by decide +kernel
theorem dX8_agree_103 : decode cX8_agree 103 = .ok (.iload_n 2, 1) := by decide +kernel
theorem dX8_agree_104 : decode cX8_agree 104 = .ok (.invokevirtual 199, 3) := by decide +kernel
theorem dX8_agree_107 : decode cX8_agree 107 = .ok (.iload 5, 2) := by decide +kernel
theorem dX8_agree_109 : decode cX8_agree 109 = .ok (.aload_n 0, 1) := by decide +kernel
theorem dX8_agree_110 : decode cX8_agree 110 = .ok (.getfield 9, 3) := by decide +kernel
theorem dX8_agree_113 : decode cX8_agree 113 = .ok (.bipush 36, 2) := by decide +kernel
theorem dX8_agree_115 : decode cX8_agree 115 = .ok (.iload_n 2, 1) := by decide +kernel
theorem dX8_agree_116 : decode cX8_agree 116 = .ok (.bipush 10, 2) := by decide +kernel
theorem dX8_agree_118 : decode cX8_agree 118 = .ok (.irem, 1) := by decide +kernel
theorem dX8_agree_119 : decode cX8_agree 119 = .ok (.iadd, 1) := by decide +kernel
theorem dX8_agree_120 : decode cX8_agree 120 = .ok (.iaload, 1) := by decide +kernel
theorem dX8_agree_121 : decode cX8_agree 121 = .ok (.if_icmp .ne 25, 3) := by decide +kernel
theorem dX8_agree_124 : decode cX8_agree 124 = .ok (.iload 6, 2) := by decide +kernel
theorem dX8_agree_126 : decode cX8_agree 126 = .ok (.aload_n 0, 1) := by decide +kernel
theorem dX8_agree_127 : decode cX8_agree 127 = .ok (.getfield 9, 3) := by decide +kernel
theorem dX8_agree_130 : decode cX8_agree 130 = .ok (.bipush 36, 2) := by decide +kernel
theorem dX8_agree_132 : decode cX8_agree 132 = .ok (.iload 4, 2) := by decide +kernel
theorem dX8_agree_134 : decode cX8_agree 134 = .ok (.bipush 10, 2) := by decide +kernel
theorem dX8_agree_136 : decode cX8_agree 136 = .ok (.irem, 1) := by decide +kernel
theorem dX8_agree_137 : decode cX8_agree 137 = .ok (.iadd, 1) := by decide +kernel
theorem dX8_agree_138 : decode cX8_agree 138 = .ok (.iaload, 1) := by decide +kernel
theorem dX8_agree_139 : decode cX8_agree 139 = .ok (.if_icmp .ne 7, 3) := by decide +kernel
theorem dX8_agree_142 : decode cX8_agree 142 = .ok (.iconst 1, 1) := by decide +kernel
theorem dX8_agree_143 : decode cX8_agree 143 = .ok (.goto 4, 3) := by decide +kernel
theorem dX8_agree_146 : decode cX8_agree 146 = .ok (.iconst 0, 1) := by decide +kernel
theorem dX8_agree_147 : decode cX8_agree 147 = .ok (.istore 7, 2) := by decide +kernel
theorem dX8_agree_149 : decode cX8_agree 149 = .ok (.aload_n 0, 1) := by decide +kernel
theorem dX8_agree_150 : decode cX8_agree 150 = .ok (.invokevirtual 202, 3) := by decide +kernel
theorem dX8_agree_153 : decode cX8_agree 153 = .ok (.iload 7, 2) := by decide +kernel
theorem dX8_agree_155 : decode cX8_agree 155 = .ok (.ifCond .eq 7, 3) := by decide +kernel
theorem dX8_agree_158 : decode cX8_agree 158 = .ok (.iconst 1, 1) := by decide +kernel
theorem dX8_agree_159 : decode cX8_agree 159 = .ok (.goto 4, 3) := by decide +kernel
theorem dX8_agree_162 : decode cX8_agree 162 = .ok (.iconst 0, 1) := by decide +kernel
theorem dX8_agree_163 : decode cX8_agree 163 = .ok (.ireturn, 1) := by decide +kernel
theorem dX8_opens_0 : decode cX8_opens 0 = .ok (.aload_n 0, 1) := by decide +kernel
theorem dX8_opens_1 : decode cX8_opens 1 = .ok (.iload_n 1, 1) := by decide +kernel
theorem dX8_opens_2 : decode cX8_opens 2 = .ok (.iload_n 2, 1) := by decide +kernel
theorem dX8_opens_3 : decode cX8_opens 3 = .ok (.iload_n 3, 1) := by decide +kernel
theorem dX8_opens_4 : decode cX8_opens 4 = .ok (.invokevirtual 168, 3) := by decide +kernel
theorem dX8_opens_7 : decode cX8_opens 7 = .ok (.ifCond .ne 9, 3) := by decide +kernel
theorem dX8_opens_10 : decode cX8_opens 10 = .ok (.aload_n 0, 1) := by decide +kernel
theorem dX8_opens_11 : decode cX8_opens 11 = .ok (.iconst 0, 1) := by decide +kernel
theorem dX8_opens_12 : decode cX8_opens 12 = .ok (.invokevirtual 74, 3) := by decide +kernel
theorem dX8_opens_15 : decode cX8_opens 15 = .ok (.ireturn, 1) := by decide +kernel
theorem dX8_opens_16 : decode cX8_opens 16 = .ok (.aload_n 0, 1) := by decide +kernel
theorem dX8_opens_17 : decode cX8_opens 17 = .ok (.invokevirtual 180, 3) := by decide +kernel
theorem dX8_opens_20 : decode cX8_opens 20 = .ok (.iconst 0, 1) := by decide +kernel
theorem dX8_opens_21 : decode cX8_opens 21 = .ok (.istore 4, 2) := by decide +kernel
theorem dX8_opens_23 : decode cX8_opens 23 = .ok (.iload 4, 2) := by decide +kernel
theorem dX8_opens_25 : decode cX8_opens 25 = .ok (.bipush 8, 2) := by decide +kernel
theorem dX8_opens_27 : decode cX8_opens 27 = .ok (.if_icmp .ge 76, 3) := by decide +kernel
theorem dX8_opens_30 : decode cX8_opens 30 = .ok (.iload 4, 2) := by decide +kernel
theorem dX8_opens_32 : decode cX8_opens 32 = .ok (.iconst 1, 1) := by decide +kernel
theorem dX8_opens_33 : decode cX8_opens 33 = .ok (.iadd, 1) := by decide +kernel
theorem dX8_opens_34 : decode cX8_opens 34 = .ok (.istore 5, 2) := by decide +kernel
theorem dX8_opens_36 : decode cX8_opens 36 = .ok (.iload 5, 2) := by decide +kernel
theorem dX8_opens_38 : decode cX8_opens 38 = .ok (.bipush 8, 2) := by decide +kernel
theorem dX8_opens_40 : decode cX8_opens 40 = .ok (.if_icmp .ge 57, 3) := by decide +kernel
theorem dX8_opens_43 : decode cX8_opens 43 = .ok (.aload_n 0, 1) := by decide +kernel
theorem dX8_opens_44 : decode cX8_opens 44 = .ok (.iload 4, 2) := by decide +kernel
theorem dX8_opens_46 : decode cX8_opens 46 = .ok (.iload 5, 2) := by decide +kernel
theorem dX8_opens_48 : decode cX8_opens 48 = .ok (.invokevirtual 77, 3) := by decide +kernel
theorem dX8_opens_51 : decode cX8_opens 51 = .ok (.ifCond .ne 40, 3) := by decide +kernel
theorem dX8_opens_54 : decode cX8_opens 54 = .ok (.aload_n 0, 1) := by decide +kernel
theorem dX8_opens_55 : decode cX8_opens 55 = .ok (.iload 4, 2) := by decide +kernel
theorem dX8_opens_57 : decode cX8_opens 57 = .ok (.iload 5, 2) := by decide +kernel
theorem dX8_opens_59 : decode cX8_opens 59 = .ok (.iconst 1, 1) := by decide +kernel
theorem dX8_opens_60 : decode cX8_opens 60 = .ok (.invokevirtual 43, 3) := by decide +kernel
theorem dX8_opens_63 : decode cX8_opens 63 = .ok (.aload_n 0, 1) := by decide +kernel
theorem dX8_opens_64 : decode cX8_opens 64 = .ok (.bipush 10, 2) := by decide +kernel
theorem dX8_opens_66 : decode cX8_opens 66 = .ok (.iload 4, 2) := by decide +kernel
theorem dX8_opens_68 : decode cX8_opens 68 = .ok (.imul, 1) := by decide +kernel
theorem dX8_opens_69 : decode cX8_opens 69 = .ok (.iload 5, 2) := by decide +kernel
theorem dX8_opens_71 : decode cX8_opens 71 = .ok (.iadd, 1) := by decide +kernel
theorem dX8_opens_72 : decode cX8_opens 72 = .ok (.aload_n 0, 1) := by decide +kernel
theorem dX8_opens_73 : decode cX8_opens 73 = .ok (.iload_n 1, 1) := by decide +kernel
theorem dX8_opens_74 : decode cX8_opens 74 = .ok (.iload_n 2, 1) := by decide +kernel
theorem dX8_opens_75 : decode cX8_opens 75 = .ok (.iload_n 3, 1) := by decide +kernel
theorem dX8_opens_76 : decode cX8_opens 76 = .ok (.invokevirtual 171, 3) := by decide +kernel
theorem dX8_opens_79 : decode cX8_opens 79 = .ok (.invokevirtual 183, 3) := by decide +kernel
theorem dX8_opens_82 : decode cX8_opens 82 = .ok (.aload_n 0, 1) := by decide +kernel
theorem dX8_opens_83 : decode cX8_opens 83 = .ok (.iload 4, 2) := by decide +kernel
theorem dX8_opens_85 : decode cX8_opens 85 = .ok (.iload 5, 2) := by decide +kernel
theorem dX8_opens_87 : decode cX8_opens 87 = .ok (.iconst 0, 1) := by decide +kernel
theorem dX8_opens_88 : decode cX8_opens 88 = .ok (.invokevirtual 43, 3) := by decide +kernel
theorem dX8_opens_91 : decode cX8_opens 91 = .ok (.iinc 5 1, 3) := by decide +kernel
theorem dX8_opens_94 : decode cX8_opens 94 = .ok (.goto (-58), 3) := by decide +kernel
theorem dX8_opens_97 : decode cX8_opens 97 = .ok (.iinc 4 1, 3) := by decide +kernel
theorem dX8_opens_100 : decode cX8_opens 100 = .ok (.goto (-77), 3) := by decide +kernel
theorem dX8_opens_103 : decode cX8_opens 103 = .ok (.aload_n 0, 1) := by decide +kernel
theorem dX8_opens_104 : decode cX8_opens 104 = .ok (.aload_n 0, 1) := by decide +kernel
theorem dX8_opens_105 : decode cX8_opens 105 = .ok (.getfield 174, 3) := by decide +kernel
theorem dX8_opens_108 : decode cX8_opens 108 = .ok (.invokevirtual 162, 3) := by decide +kernel
theorem dX8_opens_111 : decode cX8_opens 111 = .ok (.ireturn, 1) := by decide +kernel
theorem dX8_power_0 : decode cX8_power 0 = .ok (.lconst 1, 1) := by decide +kernel
theorem dX8_power_1 : decode cX8_power 1 = .ok (.lstore_n 2, 1) := by decide +kernel
theorem dX8_power_2 : decode cX8_power 2 = .ok (.iconst 0, 1) := by decide +kernel
theorem dX8_power_3 : decode cX8_power 3 = .ok (.istore 4, 2) := by decide +kernel
theorem dX8_power_5 : decode cX8_power 5 = .ok (.iload 4, 2) := by decide +kernel
theorem dX8_power_7 : decode cX8_power 7 = .ok (.iload_n 1, 1) := by decide +kernel
theorem dX8_power_8 : decode cX8_power 8 = .ok (.if_icmp .ge 29, 3) := by decide +kernel
theorem dX8_power_11 : decode cX8_power 11 = .ok (.lload_n 2, 1) := by decide +kernel
theorem dX8_power_12 : decode cX8_power 12 = .ok (.ldc2_w 205, 3) := by decide +kernel
theorem dX8_power_15 : decode cX8_power 15 = .ok (.iload_n 0, 1) := by decide +kernel
theorem dX8_power_16 : decode cX8_power 16 = .ok (.i2l, 1) := by decide +kernel
theorem dX8_power_17 : decode cX8_power 17 = .ok (.ldiv, 1) := by decide +kernel
theorem dX8_power_18 : decode cX8_power 18 = .ok (.lcmp, 1) := by decide +kernel
theorem dX8_power_19 : decode cX8_power 19 = .ok (.ifCond .le 7, 3) := by decide +kernel
theorem dX8_power_22 : decode cX8_power 22 = .ok (.ldc2_w 207, 3) := by decide +kernel
theorem dX8_power_25 : decode cX8_power 25 = .ok (.lreturn, 1) := by decide +kernel
theorem dX8_power_26 : decode cX8_power 26 = .ok (.lload_n 2, 1) := by decide +kernel
theorem dX8_power_27 : decode cX8_power 27 = .ok (.iload_n 0, 1) := by decide +kernel
theorem dX8_power_28 : decode cX8_power 28 = .ok (.i2l, 1) := by decide +kernel
theorem dX8_power_29 : decode cX8_power 29 = .ok (.lmul, 1) := by decide +kernel
theorem dX8_power_30 : decode cX8_power 30 = .ok (.lstore_n 2, 1) := by decide +kernel
theorem dX8_power_31 : decode cX8_power 31 = .ok (.iinc 4 1, 3) := by decide +kernel
theorem dX8_power_34 : decode cX8_power 34 = .ok (.goto (-29), 3) := by decide +kernel
theorem dX8_power_37 : decode cX8_power 37 = .ok (.lload_n 2, 1) := by decide +kernel
theorem dX8_power_38 : decode cX8_power 38 = .ok (.lreturn, 1) := by decide +kernel
theorem dX8_isHouses_0 : decode cX8_isHouses 0 = .ok (.iload_n 0, 1) := by decide +kernel
theorem dX8_isHouses_1 : decode cX8_isHouses 1 = .ok (.i2l, 1) := by decide +kernel
theorem dX8_isHouses_2 : decode cX8_isHouses 2 = .ok (.lconst 1, 1) := by decide +kernel
theorem dX8_isHouses_3 : decode cX8_isHouses 3 = .ok (.ldc2_w 209, 3) := by decide +kernel
theorem dX8_isHouses_6 : decode cX8_isHouses 6 = .ok (.invokestatic 54, 3) := by decide +kernel
theorem dX8_isHouses_9 : decode cX8_isHouses 9 = .ok (.ifCond .eq 18, 3) := by decide +kernel
theorem dX8_isHouses_12 : decode cX8_isHouses 12 = .ok (.iload_n 1, 1) := by decide +kernel
theorem dX8_isHouses_13 : decode cX8_isHouses 13 = .ok (.i2l, 1) := by decide +kernel
theorem dX8_isHouses_14 : decode cX8_isHouses 14 = .ok (.lconst 0, 1) := by decide +kernel
theorem dX8_isHouses_15 : decode cX8_isHouses 15 = .ok (.iload_n 2, 1) := by decide +kernel
theorem dX8_isHouses_16 : decode cX8_isHouses 16 = .ok (.i2l, 1) := by decide +kernel
theorem dX8_isHouses_17 : decode cX8_isHouses 17 = .ok (.invokestatic 54, 3) := by decide +kernel
theorem dX8_isHouses_20 : decode cX8_isHouses 20 = .ok (.ifCond .eq 7, 3) := by decide +kernel
theorem dX8_isHouses_23 : decode cX8_isHouses 23 = .ok (.iconst 1, 1) := by decide +kernel
theorem dX8_isHouses_24 : decode cX8_isHouses 24 = .ok (.goto 4, 3) := by decide +kernel
theorem dX8_isHouses_27 : decode cX8_isHouses 27 = .ok (.iconst 0, 1) := by decide +kernel
theorem dX8_isHouses_28 : decode cX8_isHouses 28 = .ok (.ireturn, 1) := by decide +kernel
theorem dX8_copies_0 : decode cX8_copies 0 = .ok (.iload_n 1, 1) := by decide +kernel
theorem dX8_copies_1 : decode cX8_copies 1 = .ok (.iload_n 2, 1) := by decide +kernel
theorem dX8_copies_2 : decode cX8_copies 2 = .ok (.bipush 62, 2) := by decide +kernel
theorem dX8_copies_4 : decode cX8_copies 4 = .ok (.invokestatic 211, 3) := by decide +kernel
theorem dX8_copies_7 : decode cX8_copies 7 = .ok (.ifCond .ne 10, 3) := by decide +kernel
theorem dX8_copies_10 : decode cX8_copies 10 = .ok (.aload_n 0, 1) := by decide +kernel
theorem dX8_copies_11 : decode cX8_copies 11 = .ok (.iconst 0, 1) := by decide +kernel
theorem dX8_copies_12 : decode cX8_copies 12 = .ok (.invokevirtual 74, 3) := by decide +kernel
theorem dX8_copies_15 : decode cX8_copies 15 = .ok (.i2l, 1) := by decide +kernel
theorem dX8_copies_16 : decode cX8_copies 16 = .ok (.lreturn, 1) := by decide +kernel
theorem dX8_copies_17 : decode cX8_copies 17 = .ok (.iload_n 1, 1) := by decide +kernel
theorem dX8_copies_18 : decode cX8_copies 18 = .ok (.iload_n 2, 1) := by decide +kernel
theorem dX8_copies_19 : decode cX8_copies 19 = .ok (.invokestatic 214, 3) := by decide +kernel
theorem dX8_copies_22 : decode cX8_copies 22 = .ok (.lstore_n 3, 1) := by decide +kernel
theorem dX8_copies_23 : decode cX8_copies 23 = .ok (.lload_n 3, 1) := by decide +kernel
theorem dX8_copies_24 : decode cX8_copies 24 = .ok (.lconst 0, 1) := by decide +kernel
theorem dX8_copies_25 : decode cX8_copies 25 = .ok (.lcmp, 1) := by decide +kernel
theorem dX8_copies_26 : decode cX8_copies 26 = .ok (.ifCond .ge 13, 3) := by decide +kernel
theorem dX8_copies_29 : decode cX8_copies 29 = .ok (.aload_n 0, 1) := by decide +kernel
theorem dX8_copies_30 : decode cX8_copies 30 = .ok (.bipush 6, 2) := by decide +kernel
theorem dX8_copies_32 : decode cX8_copies 32 = .ok (.invokevirtual 74, 3) := by decide +kernel
theorem dX8_copies_35 : decode cX8_copies 35 = .ok (.i2l, 1) := by decide +kernel
theorem dX8_copies_36 : decode cX8_copies 36 = .ok (.goto 4, 3) := by decide +kernel
theorem dX8_copies_39 : decode cX8_copies 39 = .ok (.lload_n 3, 1) := by decide +kernel
theorem dX8_copies_40 : decode cX8_copies 40 = .ok (.lreturn, 1) := by decide +kernel
theorem dX8_all_0 : decode cX8_all 0 = .ok (.iload_n 1, 1) := by decide +kernel
theorem dX8_all_1 : decode cX8_all 1 = .ok (.iload_n 2, 1) := by decide +kernel
theorem dX8_all_2 : decode cX8_all 2 = .ok (.bipush 62, 2) := by decide +kernel
theorem dX8_all_4 : decode cX8_all 4 = .ok (.invokestatic 211, 3) := by decide +kernel
theorem dX8_all_7 : decode cX8_all 7 = .ok (.ifCond .ne 10, 3) := by decide +kernel
theorem dX8_all_10 : decode cX8_all 10 = .ok (.aload_n 0, 1) := by decide +kernel
theorem dX8_all_11 : decode cX8_all 11 = .ok (.iconst 0, 1) := by decide +kernel
theorem dX8_all_12 : decode cX8_all 12 = .ok (.invokevirtual 74, 3) := by decide +kernel
theorem dX8_all_15 : decode cX8_all 15 = .ok (.i2l, 1) := by decide +kernel
theorem dX8_all_16 : decode cX8_all 16 = .ok (.lreturn, 1) := by decide +kernel
theorem dX8_all_17 : decode cX8_all 17 = .ok (.lconst 0, 1) := by decide +kernel
theorem dX8_all_18 : decode cX8_all 18 = .ok (.lstore_n 3, 1) := by decide +kernel
theorem dX8_all_19 : decode cX8_all 19 = .ok (.iconst 0, 1) := by decide +kernel
theorem dX8_all_20 : decode cX8_all 20 = .ok (.istore 5, 2) := by decide +kernel
theorem dX8_all_22 : decode cX8_all 22 = .ok (.iload 5, 2) := by decide +kernel
theorem dX8_all_24 : decode cX8_all 24 = .ok (.iload_n 2, 1) := by decide +kernel
theorem dX8_all_25 : decode cX8_all 25 = .ok (.if_icmp .gt 48, 3) := by decide +kernel
theorem dX8_all_28 : decode cX8_all 28 = .ok (.iload_n 1, 1) := by decide +kernel
theorem dX8_all_29 : decode cX8_all 29 = .ok (.iload 5, 2) := by decide +kernel
theorem dX8_all_31 : decode cX8_all 31 = .ok (.invokestatic 214, 3) := by decide +kernel
theorem dX8_all_34 : decode cX8_all 34 = .ok (.lstore 6, 2) := by decide +kernel
theorem dX8_all_36 : decode cX8_all 36 = .ok (.lload 6, 2) := by decide +kernel
theorem dX8_all_38 : decode cX8_all 38 = .ok (.lconst 0, 1) := by decide +kernel
theorem dX8_all_39 : decode cX8_all 39 = .ok (.lcmp, 1) := by decide +kernel
theorem dX8_all_40 : decode cX8_all 40 = .ok (.ifCond .lt 14, 3) := by decide +kernel
theorem dX8_all_43 : decode cX8_all 43 = .ok (.lload 6, 2) := by decide +kernel
theorem dX8_all_45 : decode cX8_all 45 = .ok (.ldc2_w 205, 3) := by decide +kernel
theorem dX8_all_48 : decode cX8_all 48 = .ok (.lload_n 3, 1) := by decide +kernel
theorem dX8_all_49 : decode cX8_all 49 = .ok (.lsub, 1) := by decide +kernel
theorem dX8_all_50 : decode cX8_all 50 = .ok (.lcmp, 1) := by decide +kernel
theorem dX8_all_51 : decode cX8_all 51 = .ok (.ifCond .le 11, 3) := by decide +kernel
theorem dX8_all_54 : decode cX8_all 54 = .ok (.aload_n 0, 1) := by decide +kernel
theorem dX8_all_55 : decode cX8_all 55 = .ok (.bipush 6, 2) := by decide +kernel
theorem dX8_all_57 : decode cX8_all 57 = .ok (.invokevirtual 74, 3) := by decide +kernel
theorem dX8_all_60 : decode cX8_all 60 = .ok (.i2l, 1) := by decide +kernel
theorem dX8_all_61 : decode cX8_all 61 = .ok (.lreturn, 1) := by decide +kernel
theorem dX8_all_62 : decode cX8_all 62 = .ok (.lload_n 3, 1) := by decide +kernel
theorem dX8_all_63 : decode cX8_all 63 = .ok (.lload 6, 2) := by decide +kernel
theorem dX8_all_65 : decode cX8_all 65 = .ok (.ladd, 1) := by decide +kernel
theorem dX8_all_66 : decode cX8_all 66 = .ok (.lstore_n 3, 1) := by decide +kernel
theorem dX8_all_67 : decode cX8_all 67 = .ok (.iinc 5 1, 3) := by decide +kernel
theorem dX8_all_70 : decode cX8_all 70 = .ok (.goto (-48), 3) := by decide +kernel
theorem dX8_all_73 : decode cX8_all 73 = .ok (.lload_n 3, 1) := by decide +kernel
theorem dX8_all_74 : decode cX8_all 74 = .ok (.lreturn, 1) := by decide +kernel
theorem dX8_divisor_0 : decode cX8_divisor 0 = .ok (.lload_n 0, 1) := by decide +kernel
theorem dX8_divisor_1 : decode cX8_divisor 1 = .ok (.lstore 4, 2) := by decide +kernel
theorem dX8_divisor_3 : decode cX8_divisor 3 = .ok (.lload_n 2, 1) := by decide +kernel
theorem dX8_divisor_4 : decode cX8_divisor 4 = .ok (.lstore 6, 2) := by decide +kernel
theorem dX8_divisor_6 : decode cX8_divisor 6 = .ok (.lload 6, 2) := by decide +kernel
theorem dX8_divisor_8 : decode cX8_divisor 8 = .ok (.lconst 0, 1) := by decide +kernel
theorem dX8_divisor_9 : decode cX8_divisor 9 = .ok (.lcmp, 1) := by decide +kernel
theorem dX8_divisor_10 : decode cX8_divisor 10 = .ok (.ifCond .eq 21, 3) := by decide +kernel
theorem dX8_divisor_13 : decode cX8_divisor 13 = .ok (.lload 4, 2) := by decide +kernel
theorem dX8_divisor_15 : decode cX8_divisor 15 = .ok (.lload 6, 2) := by decide +kernel
theorem dX8_divisor_17 : decode cX8_divisor 17 = .ok (.lrem, 1) := by decide +kernel
theorem dX8_divisor_18 : decode cX8_divisor 18 = .ok (.lstore 8, 2) := by decide +kernel
theorem dX8_divisor_20 : decode cX8_divisor 20 = .ok (.lload 6, 2) := by decide +kernel
theorem dX8_divisor_22 : decode cX8_divisor 22 = .ok (.lstore 4, 2) := by decide +kernel
theorem dX8_divisor_24 : decode cX8_divisor 24 = .ok (.lload 8, 2) := by decide +kernel
theorem dX8_divisor_26 : decode cX8_divisor 26 = .ok (.lstore 6, 2) := by decide +kernel
theorem dX8_divisor_28 : decode cX8_divisor 28 = .ok (.goto (-22), 3) := by decide +kernel
theorem dX8_divisor_31 : decode cX8_divisor 31 = .ok (.lload 4, 2) := by decide +kernel
theorem dX8_divisor_33 : decode cX8_divisor 33 = .ok (.lreturn, 1) := by decide +kernel
theorem dX8_weight_0 : decode cX8_weight 0 = .ok (.iload_n 1, 1) := by decide +kernel
theorem dX8_weight_1 : decode cX8_weight 1 = .ok (.iload_n 2, 1) := by decide +kernel
theorem dX8_weight_2 : decode cX8_weight 2 = .ok (.bipush 30, 2) := by decide +kernel
theorem dX8_weight_4 : decode cX8_weight 4 = .ok (.invokestatic 211, 3) := by decide +kernel
theorem dX8_weight_7 : decode cX8_weight 7 = .ok (.ifCond .eq 13, 3) := by decide +kernel
theorem dX8_weight_10 : decode cX8_weight 10 = .ok (.iload_n 3, 1) := by decide +kernel
theorem dX8_weight_11 : decode cX8_weight 11 = .ok (.i2l, 1) := by decide +kernel
theorem dX8_weight_12 : decode cX8_weight 12 = .ok (.lconst 0, 1) := by decide +kernel
theorem dX8_weight_13 : decode cX8_weight 13 = .ok (.lconst 1, 1) := by decide +kernel
theorem dX8_weight_14 : decode cX8_weight 14 = .ok (.invokestatic 54, 3) := by decide +kernel
theorem dX8_weight_17 : decode cX8_weight 17 = .ok (.ifCond .ne 10, 3) := by decide +kernel
theorem dX8_weight_20 : decode cX8_weight 20 = .ok (.aload_n 0, 1) := by decide +kernel
theorem dX8_weight_21 : decode cX8_weight 21 = .ok (.iconst 0, 1) := by decide +kernel
theorem dX8_weight_22 : decode cX8_weight 22 = .ok (.invokevirtual 74, 3) := by decide +kernel
theorem dX8_weight_25 : decode cX8_weight 25 = .ok (.i2l, 1) := by decide +kernel
theorem dX8_weight_26 : decode cX8_weight 26 = .ok (.lreturn, 1) := by decide +kernel
theorem dX8_weight_27 : decode cX8_weight 27 = .ok (.lconst 1, 1) := by decide +kernel
theorem dX8_weight_28 : decode cX8_weight 28 = .ok (.lstore 4, 2) := by decide +kernel
theorem dX8_weight_30 : decode cX8_weight 30 = .ok (.lconst 1, 1) := by decide +kernel
theorem dX8_weight_31 : decode cX8_weight 31 = .ok (.lstore 6, 2) := by decide +kernel
theorem dX8_weight_33 : decode cX8_weight 33 = .ok (.iconst 1, 1) := by decide +kernel
theorem dX8_weight_34 : decode cX8_weight 34 = .ok (.istore 8, 2) := by decide +kernel
theorem dX8_weight_36 : decode cX8_weight 36 = .ok (.iload 8, 2) := by decide +kernel
theorem dX8_weight_38 : decode cX8_weight 38 = .ok (.iload_n 2, 1) := by decide +kernel
theorem dX8_weight_39 : decode cX8_weight 39 = .ok (.if_icmp .gt 80, 3) := by decide +kernel
theorem dX8_weight_42 : decode cX8_weight 42 = .ok (.lload 4, 2) := by decide +kernel
theorem dX8_weight_44 : decode cX8_weight 44 = .ok (.iload_n 1, 1) := by decide +kernel
theorem dX8_weight_45 : decode cX8_weight 45 = .ok (.i2l, 1) := by decide +kernel
theorem dX8_weight_46 : decode cX8_weight 46 = .ok (.lmul, 1) := by decide +kernel
theorem dX8_weight_47 : decode cX8_weight 47 = .ok (.ldc2_w 218, 3) := by decide +kernel
theorem dX8_weight_50 : decode cX8_weight 50 = .ok (.lload 6, 2) := by decide +kernel
theorem dX8_weight_52 : decode cX8_weight 52 = .ok (.lmul, 1) := by decide +kernel
theorem dX8_weight_53 : decode cX8_weight 53 = .ok (.ladd, 1) := by decide +kernel
theorem dX8_weight_54 : decode cX8_weight 54 = .ok (.lstore 9, 2) := by decide +kernel
theorem dX8_weight_56 : decode cX8_weight 56 = .ok (.ldc2_w 218, 3) := by decide +kernel
theorem dX8_weight_59 : decode cX8_weight 59 = .ok (.lload 6, 2) := by decide +kernel
theorem dX8_weight_61 : decode cX8_weight 61 = .ok (.lmul, 1) := by decide +kernel
theorem dX8_weight_62 : decode cX8_weight 62 = .ok (.lstore 11, 2) := by decide +kernel
theorem dX8_weight_64 : decode cX8_weight 64 = .ok (.lload 9, 2) := by decide +kernel
theorem dX8_weight_66 : decode cX8_weight 66 = .ok (.lload 11, 2) := by decide +kernel
theorem dX8_weight_68 : decode cX8_weight 68 = .ok (.invokestatic 220, 3) := by decide +kernel
theorem dX8_weight_71 : decode cX8_weight 71 = .ok (.lstore 13, 2) := by decide +kernel
theorem dX8_weight_73 : decode cX8_weight 73 = .ok (.lload 9, 2) := by decide +kernel
theorem dX8_weight_75 : decode cX8_weight 75 = .ok (.lload 13, 2) := by decide +kernel
theorem dX8_weight_77 : decode cX8_weight 77 = .ok (.ldiv, 1) := by decide +kernel
theorem dX8_weight_78 : decode cX8_weight 78 = .ok (.lstore 4, 2) := by decide +kernel
theorem dX8_weight_80 : decode cX8_weight 80 = .ok (.lload 11, 2) := by decide +kernel
theorem dX8_weight_82 : decode cX8_weight 82 = .ok (.lload 13, 2) := by decide +kernel
theorem dX8_weight_84 : decode cX8_weight 84 = .ok (.ldiv, 1) := by decide +kernel
theorem dX8_weight_85 : decode cX8_weight 85 = .ok (.lstore 6, 2) := by decide +kernel
theorem dX8_weight_87 : decode cX8_weight 87 = .ok (.lload 4, 2) := by decide +kernel
theorem dX8_weight_89 : decode cX8_weight 89 = .ok (.ldc2_w 224, 3) := by decide +kernel
theorem dX8_weight_92 : decode cX8_weight 92 = .ok (.lcmp, 1) := by decide +kernel
theorem dX8_weight_93 : decode cX8_weight 93 = .ok (.ifCond .gt 12, 3) := by decide +kernel
theorem dX8_weight_96 : decode cX8_weight 96 = .ok (.lload 6, 2) := by decide +kernel
theorem dX8_weight_98 : decode cX8_weight 98 = .ok (.ldc2_w 224, 3) := by decide +kernel
theorem dX8_weight_101 : decode cX8_weight 101 = .ok (.lcmp, 1) := by decide +kernel
theorem dX8_weight_102 : decode cX8_weight 102 = .ok (.ifCond .le 11, 3) := by decide +kernel
theorem dX8_weight_105 : decode cX8_weight 105 = .ok (.aload_n 0, 1) := by decide +kernel
theorem dX8_weight_106 : decode cX8_weight 106 = .ok (.bipush 6, 2) := by decide +kernel
theorem dX8_weight_108 : decode cX8_weight 108 = .ok (.invokevirtual 74, 3) := by decide +kernel
theorem dX8_weight_111 : decode cX8_weight 111 = .ok (.i2l, 1) := by decide +kernel
theorem dX8_weight_112 : decode cX8_weight 112 = .ok (.lreturn, 1) := by decide +kernel
theorem dX8_weight_113 : decode cX8_weight 113 = .ok (.iinc 8 1, 3) := by decide +kernel
theorem dX8_weight_116 : decode cX8_weight 116 = .ok (.goto (-80), 3) := by decide +kernel
theorem dX8_weight_119 : decode cX8_weight 119 = .ok (.iload_n 3, 1) := by decide +kernel
theorem dX8_weight_120 : decode cX8_weight 120 = .ok (.ifCond .ne 8, 3) := by decide +kernel
theorem dX8_weight_123 : decode cX8_weight 123 = .ok (.lload 4, 2) := by decide +kernel
theorem dX8_weight_125 : decode cX8_weight 125 = .ok (.goto 5, 3) := by decide +kernel
theorem dX8_weight_128 : decode cX8_weight 128 = .ok (.lload 6, 2) := by decide +kernel
theorem dX8_weight_130 : decode cX8_weight 130 = .ok (.lreturn, 1) := by decide +kernel
