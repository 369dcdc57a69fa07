theorem dX7_deep_0 : decode cX7_deep 0 = .ok (.iload_n 1, 1) := by decide +kernel
theorem dX7_deep_1 : decode cX7_deep 1 = .ok (.iconst 1, 1) := by decide +kernel
theorem dX7_deep_2 : decode cX7_deep 2 = .ok (.bipush 9, 2) := by decide +kernel
theorem dX7_deep_4 : decode cX7_deep 4 = .ok (.invokestatic 51, 3) := by decide +kernel
theorem dX7_deep_7 : decode cX7_deep 7 = .ok (.ifCond .eq 13, 3) := by decide +kernel
theorem dX7_deep_10 : decode cX7_deep 10 = .ok (.iload_n 2, 1) := by decide +kernel
theorem dX7_deep_11 : decode cX7_deep 11 = .ok (.iconst 1, 1) := by decide +kernel
theorem dX7_deep_12 : decode cX7_deep 12 = .ok (.ldc 239, 2) := by decide +kernel
theorem dX7_deep_14 : decode cX7_deep 14 = .ok (.invokestatic 51, 3) := by decide +kernel
theorem dX7_deep_17 : decode cX7_deep 17 = .ok (.ifCond .ne 10, 3) := by decide +kernel
theorem dX7_deep_20 : decode cX7_deep 20 = .ok (.aload_n 0, 1) := by decide +kernel
theorem dX7_deep_21 : decode cX7_deep 21 = .ok (.ldc 55, 2) := by decide +kernel
theorem dX7_deep_23 : decode cX7_deep 23 = .ok (.invokevirtual 56, 3) := by decide +kernel
theorem dX7_deep_26 : decode cX7_deep 26 = .ok (.ireturn, 1) := by decide +kernel
theorem dX7_deep_27 : decode cX7_deep 27 = .ok (.lconst 1, 1) := by decide +kernel
theorem dX7_deep_28 : decode cX7_deep 28 = .ok (.lstore_n 3, 1) := by decide +kernel
theorem dX7_deep_29 : decode cX7_deep 29 = .ok (.iconst 0, 1) := by decide +kernel
theorem dX7_deep_30 : decode cX7_deep 30 = .ok (.istore 5, 2) := by decide +kernel
theorem dX7_deep_32 : decode cX7_deep 32 = .ok (.iload 5, 2) := by decide +kernel
theorem dX7_deep_34 : decode cX7_deep 34 = .ok (.bipush 62, 2) := by decide +kernel
theorem dX7_deep_36 : decode cX7_deep 36 = .ok (.if_icmp .gt 24, 3) := by decide +kernel
theorem dX7_deep_39 : decode cX7_deep 39 = .ok (.lload_n 3, 1) := by decide +kernel
theorem dX7_deep_40 : decode cX7_deep 40 = .ok (.iload_n 2, 1) := by decide +kernel
theorem dX7_deep_41 : decode cX7_deep 41 = .ok (.i2l, 1) := by decide +kernel
theorem dX7_deep_42 : decode cX7_deep 42 = .ok (.lcmp, 1) := by decide +kernel
theorem dX7_deep_43 : decode cX7_deep 43 = .ok (.ifCond .lt 6, 3) := by decide +kernel
theorem dX7_deep_46 : decode cX7_deep 46 = .ok (.iload 5, 2) := by decide +kernel
theorem dX7_deep_48 : decode cX7_deep 48 = .ok (.ireturn, 1) := by decide +kernel
theorem dX7_deep_49 : decode cX7_deep 49 = .ok (.lload_n 3, 1) := by decide +kernel
theorem dX7_deep_50 : decode cX7_deep 50 = .ok (.iload_n 1, 1) := by decide +kernel
theorem dX7_deep_51 : decode cX7_deep 51 = .ok (.i2l, 1) := by decide +kernel
theorem dX7_deep_52 : decode cX7_deep 52 = .ok (.lmul, 1) := by decide +kernel
theorem dX7_deep_53 : decode cX7_deep 53 = .ok (.lstore_n 3, 1) := by decide +kernel
theorem dX7_deep_54 : decode cX7_deep 54 = .ok (.iinc 5 1, 3) := by decide +kernel
theorem dX7_deep_57 : decode cX7_deep 57 = .ok (.goto (-25), 3) := by decide +kernel
theorem dX7_deep_60 : decode cX7_deep 60 = .ok (.aload_n 0, 1) := by decide +kernel
theorem dX7_deep_61 : decode cX7_deep 61 = .ok (.ldc 180, 2) := by decide +kernel
theorem dX7_deep_63 : decode cX7_deep 63 = .ok (.invokevirtual 56, 3) := by decide +kernel
theorem dX7_deep_66 : decode cX7_deep 66 = .ok (.ireturn, 1) := by decide +kernel
theorem dX7_days_0 : decode cX7_days 0 = .ok (.iload_n 1, 1) := by decide +kernel
theorem dX7_days_1 : decode cX7_days 1 = .ok (.iconst 1, 1) := by decide +kernel
theorem dX7_days_2 : decode cX7_days 2 = .ok (.bipush 60, 2) := by decide +kernel
theorem dX7_days_4 : decode cX7_days 4 = .ok (.invokestatic 51, 3) := by decide +kernel
theorem dX7_days_7 : decode cX7_days 7 = .ok (.ifCond .ne 10, 3) := by decide +kernel
theorem dX7_days_10 : decode cX7_days 10 = .ok (.aload_n 0, 1) := by decide +kernel
theorem dX7_days_11 : decode cX7_days 11 = .ok (.ldc 55, 2) := by decide +kernel
theorem dX7_days_13 : decode cX7_days 13 = .ok (.invokevirtual 56, 3) := by decide +kernel
theorem dX7_days_16 : decode cX7_days 16 = .ok (.ireturn, 1) := by decide +kernel
theorem dX7_days_17 : decode cX7_days 17 = .ok (.aload_n 0, 1) := by decide +kernel
theorem dX7_days_18 : decode cX7_days 18 = .ok (.getfield 12, 3) := by decide +kernel
theorem dX7_days_21 : decode cX7_days 21 = .ok (.getfield 162, 3) := by decide +kernel
theorem dX7_days_24 : decode cX7_days 24 = .ok (.iload_n 1, 1) := by decide +kernel
theorem dX7_days_25 : decode cX7_days 25 = .ok (.iadd, 1) := by decide +kernel
theorem dX7_days_26 : decode cX7_days 26 = .ok (.sipush 9999, 3) := by decide +kernel
theorem dX7_days_29 : decode cX7_days 29 = .ok (.if_icmp .le 10, 3) := by decide +kernel
theorem dX7_days_32 : decode cX7_days 32 = .ok (.aload_n 0, 1) := by decide +kernel
theorem dX7_days_33 : decode cX7_days 33 = .ok (.ldc 124, 2) := by decide +kernel
theorem dX7_days_35 : decode cX7_days 35 = .ok (.invokevirtual 56, 3) := by decide +kernel
theorem dX7_days_38 : decode cX7_days 38 = .ok (.ireturn, 1) := by decide +kernel
theorem dX7_days_39 : decode cX7_days 39 = .ok (.aload_n 0, 1) := by decide +kernel
theorem dX7_days_40 : decode cX7_days 40 = .ok (.getfield 12, 3) := by decide +kernel
theorem dX7_days_43 : decode cX7_days 43 = .ok (.iload_n 1, 1) := by decide +kernel
theorem dX7_days_44 : decode cX7_days 44 = .ok (.invokevirtual 240, 3) := by decide +kernel
theorem dX7_days_47 : decode cX7_days 47 = .ok (.ireturn, 1) := by decide +kernel
theorem dX7_ahead_0 : decode cX7_ahead 0 = .ok (.iload_n 1, 1) := by decide +kernel
theorem dX7_ahead_1 : decode cX7_ahead 1 = .ok (.iconst 0, 1) := by decide +kernel
theorem dX7_ahead_2 : decode cX7_ahead 2 = .ok (.bipush 60, 2) := by decide +kernel
theorem dX7_ahead_4 : decode cX7_ahead 4 = .ok (.invokestatic 51, 3) := by decide +kernel
theorem dX7_ahead_7 : decode cX7_ahead 7 = .ok (.ifCond .eq 17, 3) := by decide +kernel
theorem dX7_ahead_10 : decode cX7_ahead 10 = .ok (.iload_n 2, 1) := by decide +kernel
theorem dX7_ahead_11 : decode cX7_ahead 11 = .ok (.ifCond .eq 20, 3) := by decide +kernel
theorem dX7_ahead_14 : decode cX7_ahead 14 = .ok (.aload_n 0, 1) := by decide +kernel
theorem dX7_ahead_15 : decode cX7_ahead 15 = .ok (.iload_n 2, 1) := by decide +kernel
theorem dX7_ahead_16 : decode cX7_ahead 16 = .ok (.iconst 1, 1) := by decide +kernel
theorem dX7_ahead_17 : decode cX7_ahead 17 = .ok (.isub, 1) := by decide +kernel
theorem dX7_ahead_18 : decode cX7_ahead 18 = .ok (.invokevirtual 84, 3) := by decide +kernel
theorem dX7_ahead_21 : decode cX7_ahead 21 = .ok (.ifCond .ne 10, 3) := by decide +kernel
theorem dX7_ahead_24 : decode cX7_ahead 24 = .ok (.aload_n 0, 1) := by decide +kernel
theorem dX7_ahead_25 : decode cX7_ahead 25 = .ok (.ldc 55, 2) := by decide +kernel
theorem dX7_ahead_27 : decode cX7_ahead 27 = .ok (.invokevirtual 56, 3) := by decide +kernel
theorem dX7_ahead_30 : decode cX7_ahead 30 = .ok (.ireturn, 1) := by decide +kernel
theorem dX7_ahead_31 : decode cX7_ahead 31 = .ok (.aload_n 0, 1) := by decide +kernel
theorem dX7_ahead_32 : decode cX7_ahead 32 = .ok (.getfield 12, 3) := by decide +kernel
theorem dX7_ahead_35 : decode cX7_ahead 35 = .ok (.getfield 162, 3) := by decide +kernel
theorem dX7_ahead_38 : decode cX7_ahead 38 = .ok (.iload_n 1, 1) := by decide +kernel
theorem dX7_ahead_39 : decode cX7_ahead 39 = .ok (.iadd, 1) := by decide +kernel
theorem dX7_ahead_40 : decode cX7_ahead 40 = .ok (.sipush 9999, 3) := by decide +kernel
theorem dX7_ahead_43 : decode cX7_ahead 43 = .ok (.if_icmp .le 10, 3) := by decide +kernel
theorem dX7_ahead_46 : decode cX7_ahead 46 = .ok (.aload_n 0, 1) := by decide +kernel
theorem dX7_ahead_47 : decode cX7_ahead 47 = .ok (.ldc 124, 2) := by decide +kernel
theorem dX7_ahead_49 : decode cX7_ahead 49 = .ok (.invokevirtual 56, 3) := by decide +kernel
theorem dX7_ahead_52 : decode cX7_ahead 52 = .ok (.ireturn, 1) := by decide +kernel
theorem dX7_ahead_53 : decode cX7_ahead 53 = .ok (.aload_n 0, 1) := by decide +kernel
theorem dX7_ahead_54 : decode cX7_ahead 54 = .ok (.getfield 19, 3) := by decide +kernel
theorem dX7_ahead_57 : decode cX7_ahead 57 = .ok (.aload_n 0, 1) := by decide +kernel
theorem dX7_ahead_58 : decode cX7_ahead 58 = .ok (.getfield 12, 3) := by decide +kernel
theorem dX7_ahead_61 : decode cX7_ahead 61 = .ok (.invokevirtual 209, 3) := by decide +kernel
theorem dX7_ahead_64 : decode cX7_ahead 64 = .ok (.aload_n 0, 1) := by decide +kernel
theorem dX7_ahead_65 : decode cX7_ahead 65 = .ok (.getfield 19, 3) := by decide +kernel
theorem dX7_ahead_68 : decode cX7_ahead 68 = .ok (.iload_n 1, 1) := by decide +kernel
theorem dX7_ahead_69 : decode cX7_ahead 69 = .ok (.invokevirtual 240, 3) := by decide +kernel
theorem dX7_ahead_72 : decode cX7_ahead 72 = .ok (.istore_n 3, 1) := by decide +kernel
theorem dX7_ahead_73 : decode cX7_ahead 73 = .ok (.iload_n 2, 1) := by decide +kernel
theorem dX7_ahead_74 : decode cX7_ahead 74 = .ok (.ifCond .ne 7, 3) := by decide +kernel
theorem dX7_ahead_77 : decode cX7_ahead 77 = .ok (.iload_n 3, 1) := by decide +kernel
theorem dX7_ahead_78 : decode cX7_ahead 78 = .ok (.goto 14, 3) := by decide +kernel
theorem dX7_ahead_81 : decode cX7_ahead 81 = .ok (.aload_n 0, 1) := by decide +kernel
theorem dX7_ahead_82 : decode cX7_ahead 82 = .ok (.getfield 19, 3) := by decide +kernel
theorem dX7_ahead_85 : decode cX7_ahead 85 = .ok (.getfield 150, 3) := by decide +kernel
theorem dX7_ahead_88 : decode cX7_ahead 88 = .ok (.iload_n 2, 1) := by decide +kernel
theorem dX7_ahead_89 : decode cX7_ahead 89 = .ok (.iconst 1, 1) := by decide +kernel
theorem dX7_ahead_90 : decode cX7_ahead 90 = .ok (.isub, 1) := by decide +kernel
theorem dX7_ahead_91 : decode cX7_ahead 91 = .ok (.iaload, 1) := by decide +kernel
theorem dX7_ahead_92 : decode cX7_ahead 92 = .ok (.ireturn, 1) := by decide +kernel
theorem dX7_when_0 : decode cX7_when 0 = .ok (.aload_n 0, 1) := by decide +kernel
theorem dX7_when_1 : decode cX7_when 1 = .ok (.iload_n 1, 1) := by decide +kernel
theorem dX7_when_2 : decode cX7_when 2 = .ok (.invokevirtual 84, 3) := by decide +kernel
theorem dX7_when_5 : decode cX7_when 5 = .ok (.ifCond .eq 10, 3) := by decide +kernel
theorem dX7_when_8 : decode cX7_when 8 = .ok (.iload_n 2, 1) := by decide +kernel
theorem dX7_when_9 : decode cX7_when 9 = .ok (.invokestatic 47, 3) := by decide +kernel
theorem dX7_when_12 : decode cX7_when 12 = .ok (.ifCond .ne 10, 3) := by decide +kernel
theorem dX7_when_15 : decode cX7_when 15 = .ok (.aload_n 0, 1) := by decide +kernel
theorem dX7_when_16 : decode cX7_when 16 = .ok (.ldc 55, 2) := by decide +kernel
theorem dX7_when_18 : decode cX7_when 18 = .ok (.invokevirtual 56, 3) := by decide +kernel
theorem dX7_when_21 : decode cX7_when 21 = .ok (.ireturn, 1) := by decide +kernel
theorem dX7_when_22 : decode cX7_when 22 = .ok (.aload_n 0, 1) := by decide +kernel
theorem dX7_when_23 : decode cX7_when 23 = .ok (.getfield 12, 3) := by decide +kernel
theorem dX7_when_26 : decode cX7_when 26 = .ok (.getfield 162, 3) := by decide +kernel
theorem dX7_when_29 : decode cX7_when 29 = .ok (.sipush 9939, 3) := by decide +kernel
theorem dX7_when_32 : decode cX7_when 32 = .ok (.if_icmp .le 10, 3) := by decide +kernel
theorem dX7_when_35 : decode cX7_when 35 = .ok (.aload_n 0, 1) := by decide +kernel
theorem dX7_when_36 : decode cX7_when 36 = .ok (.ldc 124, 2) := by decide +kernel
theorem dX7_when_38 : decode cX7_when 38 = .ok (.invokevirtual 56, 3) := by decide +kernel
theorem dX7_when_41 : decode cX7_when 41 = .ok (.ireturn, 1) := by decide +kernel
theorem dX7_when_42 : decode cX7_when 42 = .ok (.aload_n 0, 1) := by decide +kernel
theorem dX7_when_43 : decode cX7_when 43 = .ok (.getfield 19, 3) := by decide +kernel
theorem dX7_when_46 : decode cX7_when 46 = .ok (.aload_n 0, 1) := by decide +kernel
theorem dX7_when_47 : decode cX7_when 47 = .ok (.getfield 12, 3) := by decide +kernel
theorem dX7_when_50 : decode cX7_when 50 = .ok (.invokevirtual 209, 3) := by decide +kernel
theorem dX7_when_53 : decode cX7_when 53 = .ok (.iconst 0, 1) := by decide +kernel
theorem dX7_when_54 : decode cX7_when 54 = .ok (.istore_n 3, 1) := by decide +kernel
theorem dX7_when_55 : decode cX7_when 55 = .ok (.iload_n 3, 1) := by decide +kernel
theorem dX7_when_56 : decode cX7_when 56 = .ok (.bipush 60, 2) := by decide +kernel
theorem dX7_when_58 : decode cX7_when 58 = .ok (.if_icmp .gt 37, 3) := by decide +kernel
theorem dX7_when_61 : decode cX7_when 61 = .ok (.iload_n 3, 1) := by decide +kernel
theorem dX7_when_62 : decode cX7_when 62 = .ok (.ifCond .le 12, 3) := by decide +kernel
theorem dX7_when_65 : decode cX7_when 65 = .ok (.aload_n 0, 1) := by decide +kernel
theorem dX7_when_66 : decode cX7_when 66 = .ok (.getfield 19, 3) := by decide +kernel
theorem dX7_when_69 : decode cX7_when 69 = .ok (.iconst 1, 1) := by decide +kernel
theorem dX7_when_70 : decode cX7_when 70 = .ok (.invokevirtual 240, 3) := by decide +kernel
theorem dX7_when_73 : decode cX7_when 73 = .ok (.pop, 1) := by decide +kernel
theorem dX7_when_74 : decode cX7_when 74 = .ok (.aload_n 0, 1) := by decide +kernel
theorem dX7_when_75 : decode cX7_when 75 = .ok (.getfield 19, 3) := by decide +kernel
theorem dX7_when_78 : decode cX7_when 78 = .ok (.getfield 150, 3) := by decide +kernel
theorem dX7_when_81 : decode cX7_when 81 = .ok (.iload_n 1, 1) := by decide +kernel
theorem dX7_when_82 : decode cX7_when 82 = .ok (.iaload, 1) := by decide +kernel
theorem dX7_when_83 : decode cX7_when 83 = .ok (.iload_n 2, 1) := by decide +kernel
theorem dX7_when_84 : decode cX7_when 84 = .ok (.if_icmp .ne 5, 3) := by decide +kernel
theorem dX7_when_87 : decode cX7_when 87 = .ok (.iload_n 3, 1) := by decide +kernel
theorem dX7_when_88 : decode cX7_when 88 = .ok (.ireturn, 1) := by decide +kernel
theorem dX7_when_89 : decode cX7_when 89 = .ok (.iinc 3 1, 3) := by decide +kernel
theorem dX7_when_92 : decode cX7_when 92 = .ok (.goto (-37), 3) := by decide +kernel
theorem dX7_when_95 : decode cX7_when 95 = .ok (.aload_n 0, 1) := by decide +kernel
theorem dX7_when_96 : decode cX7_when 96 = .ok (.ldc 180, 2) := by decide +kernel
theorem dX7_when_98 : decode cX7_when 98 = .ok (.invokevirtual 56, 3) := by decide +kernel
theorem dX7_when_101 : decode cX7_when 101 = .ok (.ireturn, 1) := by decide +kernel
theorem dX7_seed_0 : decode cX7_seed 0 = .ok (.aload_n 0, 1) := by decide +kernel
theorem dX7_seed_1 : decode cX7_seed 1 = .ok (.getfield 12, 3) := by decide +kernel
theorem dX7_seed_4 : decode cX7_seed 4 = .ok (.getfield 243, 3) := by decide +kernel
theorem dX7_seed_7 : decode cX7_seed 7 = .ok (.istore_n 2, 1) := by decide +kernel
theorem dX7_seed_8 : decode cX7_seed 8 = .ok (.aload_n 0, 1) := by decide +kernel
theorem dX7_seed_9 : decode cX7_seed 9 = .ok (.getfield 12, 3) := by decide +kernel
theorem dX7_seed_12 : decode cX7_seed 12 = .ok (.iload_n 1, 1) := by decide +kernel
theorem dX7_seed_13 : decode cX7_seed 13 = .ok (.putfield 243, 3) := by decide +kernel
theorem dX7_seed_16 : decode cX7_seed 16 = .ok (.iload_n 2, 1) := by decide +kernel
theorem dX7_seed_17 : decode cX7_seed 17 = .ok (.ireturn, 1) := by decide +kernel
theorem dX7_feed_0 : decode cX7_feed 0 = .ok (.iload_n 2, 1) := by decide +kernel
theorem dX7_feed_1 : decode cX7_feed 1 = .ok (.iconst 1, 1) := by decide +kernel
theorem dX7_feed_2 : decode cX7_feed 2 = .ok (.iconst 4, 1) := by decide +kernel
theorem dX7_feed_3 : decode cX7_feed 3 = .ok (.invokestatic 51, 3) := by decide +kernel
theorem dX7_feed_6 : decode cX7_feed 6 = .ok (.ifCond .ne 10, 3) := by decide +kernel
theorem dX7_feed_9 : decode cX7_feed 9 = .ok (.aload_n 0, 1) := by decide +kernel
theorem dX7_feed_10 : decode cX7_feed 10 = .ok (.ldc 55, 2) := by decide +kernel
theorem dX7_feed_12 : decode cX7_feed 12 = .ok (.invokevirtual 56, 3) := by decide +kernel
theorem dX7_feed_15 : decode cX7_feed 15 = .ok (.ireturn, 1) := by decide +kernel
theorem dX7_feed_16 : decode cX7_feed 16 = .ok (.aload_n 0, 1) := by decide +kernel
theorem dX7_feed_17 : decode cX7_feed 17 = .ok (.getfield 32, 3) := by decide +kernel
theorem dX7_feed_20 : decode cX7_feed 20 = .ok (.getfield 246, 3) := by decide +kernel
theorem dX7_feed_23 : decode cX7_feed 23 = .ok (.getfield 250, 3) := by decide +kernel
theorem dX7_feed_26 : decode cX7_feed 26 = .ok (.iload_n 2, 1) := by decide +kernel
theorem dX7_feed_27 : decode cX7_feed 27 = .ok (.iadd, 1) := by decide +kernel
theorem dX7_feed_28 : decode cX7_feed 28 = .ok (.bipush 120, 2) := by decide +kernel
theorem dX7_feed_30 : decode cX7_feed 30 = .ok (.if_icmp .le 10, 3) := by decide +kernel
theorem dX7_feed_33 : decode cX7_feed 33 = .ok (.aload_n 0, 1) := by decide +kernel
theorem dX7_feed_34 : decode cX7_feed 34 = .ok (.ldc 79, 2) := by decide +kernel
theorem dX7_feed_36 : decode cX7_feed 36 = .ok (.invokevirtual 56, 3) := by decide +kernel
theorem dX7_feed_39 : decode cX7_feed 39 = .ok (.ireturn, 1) := by decide +kernel
theorem dX7_feed_40 : decode cX7_feed 40 = .ok (.aload_n 0, 1) := by decide +kernel
theorem dX7_feed_41 : decode cX7_feed 41 = .ok (.getfield 32, 3) := by decide +kernel
theorem dX7_feed_44 : decode cX7_feed 44 = .ok (.getfield 246, 3) := by decide +kernel
theorem dX7_feed_47 : decode cX7_feed 47 = .ok (.iload_n 1, 1) := by decide +kernel
theorem dX7_feed_48 : decode cX7_feed 48 = .ok (.iload_n 2, 1) := by decide +kernel
theorem dX7_feed_49 : decode cX7_feed 49 = .ok (.invokevirtual 255, 3) := by decide +kernel
theorem dX7_feed_52 : decode cX7_feed 52 = .ok (.aload_n 0, 1) := by decide +kernel
theorem dX7_feed_53 : decode cX7_feed 53 = .ok (.getfield 32, 3) := by decide +kernel
theorem dX7_feed_56 : decode cX7_feed 56 = .ok (.getfield 246, 3) := by decide +kernel
theorem dX7_feed_59 : decode cX7_feed 59 = .ok (.getfield 250, 3) := by decide +kernel
theorem dX7_feed_62 : decode cX7_feed 62 = .ok (.ireturn, 1) := by decide +kernel
theorem dX7_wipe_0 : decode cX7_wipe 0 = .ok (.aload_n 0, 1) := by decide +kernel
theorem dX7_wipe_1 : decode cX7_wipe 1 = .ok (.getfield 32, 3) := by decide +kernel
theorem dX7_wipe_4 : decode cX7_wipe 4 = .ok (.getfield 246, 3) := by decide +kernel
theorem dX7_wipe_7 : decode cX7_wipe 7 = .ok (.getfield 250, 3) := by decide +kernel
theorem dX7_wipe_10 : decode cX7_wipe 10 = .ok (.istore_n 1, 1) := by decide +kernel
theorem dX7_wipe_11 : decode cX7_wipe 11 = .ok (.aload_n 0, 1) := by decide +kernel
theorem dX7_wipe_12 : decode cX7_wipe 12 = .ok (.getfield 32, 3) := by decide +kernel
theorem dX7_wipe_15 : decode cX7_wipe 15 = .ok (.getfield 246, 3) := by decide +kernel
theorem dX7_wipe_18 : decode cX7_wipe 18 = .ok (.iconst 0, 1) := by decide +kernel
theorem dX7_wipe_19 : decode cX7_wipe 19 = .ok (.putfield 250, 3) := by decide +kernel
theorem dX7_wipe_22 : decode cX7_wipe 22 = .ok (.iload_n 1, 1) := by decide +kernel
theorem dX7_wipe_23 : decode cX7_wipe 23 = .ok (.ireturn, 1) := by decide +kernel
theorem dX7_text_0 : decode cX7_text 0 = .ok (.aload_n 0, 1) := by decide +kernel
theorem dX7_text_1 : decode cX7_text 1 = .ok (.getfield 32, 3) := by decide +kernel
theorem dX7_text_4 : decode cX7_text 4 = .ok (.aload_n 0, 1) := by decide +kernel
theorem dX7_text_5 : decode cX7_text 5 = .ok (.getfield 12, 3) := by decide +kernel
theorem dX7_text_8 : decode cX7_text 8 = .ok (.getfield 75, 3) := by decide +kernel
theorem dX7_text_11 : decode cX7_text 11 = .ok (.aload_n 0, 1) := by decide +kernel
theorem dX7_text_12 : decode cX7_text 12 = .ok (.getfield 12, 3) := by decide +kernel
theorem dX7_text_15 : decode cX7_text 15 = .ok (.getfield 103, 3) := by decide +kernel
theorem dX7_text_18 : decode cX7_text 18 = .ok (.invokevirtual 258, 3) := by decide +kernel
theorem dX7_text_21 : decode cX7_text 21 = .ok (.istore_n 1, 1) := by decide +kernel
theorem dX7_text_22 : decode cX7_text 22 = .ok (.aload_n 0, 1) := by decide +kernel
theorem dX7_text_23 : decode cX7_text 23 = .ok (.getfield 32, 3) := by decide +kernel
theorem dX7_text_26 : decode cX7_text 26 = .ok (.getfield 246, 3) := by decide +kernel
theorem dX7_text_29 : decode cX7_text 29 = .ok (.iconst 0, 1) := by decide +kernel
theorem dX7_text_30 : decode cX7_text 30 = .ok (.putfield 250, 3) := by decide +kernel
theorem dX7_text_33 : decode cX7_text 33 = .ok (.iload_n 1, 1) := by decide +kernel
theorem dX7_text_34 : decode cX7_text 34 = .ok (.iconst (-1), 1) := by decide +kernel
theorem dX7_text_35 : decode cX7_text 35 = .ok (.if_icmp .eq 7, 3) := by decide +kernel
theorem dX7_text_38 : decode cX7_text 38 = .ok (.iconst (-1), 1) := by decide +kernel
theorem dX7_text_39 : decode cX7_text 39 = .ok (.iload_n 1, 1) := by decide +kernel
theorem dX7_text_40 : decode cX7_text 40 = .ok (.isub, 1) := by decide +kernel
theorem dX7_text_41 : decode cX7_text 41 = .ok (.ireturn, 1) := by decide +kernel
theorem dX7_text_42 : decode cX7_text 42 = .ok (.iconst 0, 1) := by decide +kernel
theorem dX7_text_43 : decode cX7_text 43 = .ok (.istore_n 2, 1) := by decide +kernel
theorem dX7_text_44 : decode cX7_text 44 = .ok (.iload_n 2, 1) := by decide +kernel
theorem dX7_text_45 : decode cX7_text 45 = .ok (.aload_n 0, 1) := by decide +kernel
theorem dX7_text_46 : decode cX7_text 46 = .ok (.getfield 32, 3) := by decide +kernel
theorem dX7_text_49 : decode cX7_text 49 = .ok (.getfield 261, 3) := by decide +kernel
theorem dX7_text_52 : decode cX7_text 52 = .ok (.if_icmp .ge 16, 3) := by decide +kernel
theorem dX7_text_55 : decode cX7_text 55 = .ok (.aload_n 0, 1) := by decide +kernel
theorem dX7_text_56 : decode cX7_text 56 = .ok (.iload_n 2, 1) := by decide +kernel
theorem dX7_text_57 : decode cX7_text 57 = .ok (.iconst 4, 1) := by decide +kernel
theorem dX7_text_58 : decode cX7_text 58 = .ok (.imul, 1) := by decide +kernel
theorem dX7_text_59 : decode cX7_text 59 = .ok (.invokevirtual 264, 3) := by decide +kernel
theorem dX7_text_62 : decode cX7_text 62 = .ok (.iinc 2 1, 3) := by decide +kernel
theorem dX7_text_65 : decode cX7_text 65 = .ok (.goto (-21), 3) := by decide +kernel
theorem dX7_text_68 : decode cX7_text 68 = .ok (.aload_n 0, 1) := by decide +kernel
theorem dX7_text_69 : decode cX7_text 69 = .ok (.getfield 32, 3) := by decide +kernel
theorem dX7_text_72 : decode cX7_text 72 = .ok (.getfield 261, 3) := by decide +kernel
theorem dX7_text_75 : decode cX7_text 75 = .ok (.ireturn, 1) := by decide +kernel
theorem dX7_hold_0 : decode cX7_hold 0 = .ok (.iload_n 1, 1) := by decide +kernel
theorem dX7_hold_1 : decode cX7_hold 1 = .ok (.iconst 0, 1) := by decide +kernel
theorem dX7_hold_2 : decode cX7_hold 2 = .ok (.bipush 9, 2) := by decide +kernel
theorem dX7_hold_4 : decode cX7_hold 4 = .ok (.invokestatic 51, 3) := by decide +kernel
theorem dX7_hold_7 : decode cX7_hold 7 = .ok (.ifCond .eq 16, 3) := by decide +kernel
theorem dX7_hold_10 : decode cX7_hold 10 = .ok (.iload_n 2, 1) := by decide +kernel
theorem dX7_hold_11 : decode cX7_hold 11 = .ok (.iconst (-1), 1) := by decide +kernel
theorem dX7_hold_12 : decode cX7_hold 12 = .ok (.if_icmp .eq 18, 3) := by decide +kernel
theorem dX7_hold_15 : decode cX7_hold 15 = .ok (.aload_n 0, 1) := by decide +kernel
theorem dX7_hold_16 : decode cX7_hold 16 = .ok (.iload_n 2, 1) := by decide +kernel
theorem dX7_hold_17 : decode cX7_hold 17 = .ok (.invokevirtual 84, 3) := by decide +kernel
theorem dX7_hold_20 : decode cX7_hold 20 = .ok (.ifCond .ne 10, 3) := by decide +kernel
theorem dX7_hold_23 : decode cX7_hold 23 = .ok (.aload_n 0, 1) := by decide +kernel
theorem dX7_hold_24 : decode cX7_hold 24 = .ok (.ldc 55, 2) := by decide +kernel
theorem dX7_hold_26 : decode cX7_hold 26 = .ok (.invokevirtual 56, 3) := by decide +kernel
theorem dX7_hold_29 : decode cX7_hold 29 = .ok (.ireturn, 1) := by decide +kernel
theorem dX7_hold_30 : decode cX7_hold 30 = .ok (.aload_n 0, 1) := by decide +kernel
theorem dX7_hold_31 : decode cX7_hold 31 = .ok (.getfield 12, 3) := by decide +kernel
theorem dX7_hold_34 : decode cX7_hold 34 = .ok (.getfield 268, 3) := by decide +kernel
theorem dX7_hold_37 : decode cX7_hold 37 = .ok (.iload_n 1, 1) := by decide +kernel
theorem dX7_hold_38 : decode cX7_hold 38 = .ok (.iload_n 2, 1) := by decide +kernel
theorem dX7_hold_39 : decode cX7_hold 39 = .ok (.iastore, 1) := by decide +kernel
theorem dX7_hold_40 : decode cX7_hold 40 = .ok (.iconst 1, 1) := by decide +kernel
theorem dX7_hold_41 : decode cX7_hold 41 = .ok (.ireturn, 1) := by decide +kernel
theorem dX7_as_0 : decode cX7_as 0 = .ok (.iload_n 1, 1) := by decide +kernel
theorem dX7_as_1 : decode cX7_as 1 = .ok (.iconst 0, 1) := by decide +kernel
theorem dX7_as_2 : decode cX7_as 2 = .ok (.bipush 9, 2) := by decide +kernel
theorem dX7_as_4 : decode cX7_as 4 = .ok (.invokestatic 51, 3) := by decide +kernel
theorem dX7_as_7 : decode cX7_as 7 = .ok (.ifCond .eq 10, 3) := by decide +kernel
theorem dX7_as_10 : decode cX7_as 10 = .ok (.iload_n 2, 1) := by decide +kernel
theorem dX7_as_11 : decode cX7_as 11 = .ok (.invokestatic 72, 3) := by decide +kernel
theorem dX7_as_14 : decode cX7_as 14 = .ok (.ifCond .ne 10, 3) := by decide +kernel
theorem dX7_as_17 : decode cX7_as 17 = .ok (.aload_n 0, 1) := by decide +kernel
theorem dX7_as_18 : decode cX7_as 18 = .ok (.ldc 55, 2) := by decide +kernel
theorem dX7_as_20 : decode cX7_as 20 = .ok (.invokevirtual 56, 3) := by decide +kernel
theorem dX7_as_23 : decode cX7_as 23 = .ok (.ireturn, 1) := by decide +kernel
theorem dX7_as_24 : decode cX7_as 24 = .ok (.aload_n 0, 1) := by decide +kernel
theorem dX7_as_25 : decode cX7_as 25 = .ok (.getfield 12, 3) := by decide +kernel
theorem dX7_as_28 : decode cX7_as 28 = .ok (.getfield 268, 3) := by decide +kernel
theorem dX7_as_31 : decode cX7_as 31 = .ok (.iload_n 1, 1) := by decide +kernel
theorem dX7_as_32 : decode cX7_as 32 = .ok (.iaload, 1) := by decide +kernel
theorem dX7_as_33 : decode cX7_as 33 = .ok (.istore_n 3, 1) := by decide +kernel
theorem dX7_as_34 : decode cX7_as 34 = .ok (.aload_n 0, 1) := by decide +kernel
theorem dX7_as_35 : decode cX7_as 35 = .ok (.iload_n 3, 1) := by decide +kernel
theorem dX7_as_36 : decode cX7_as 36 = .ok (.invokevirtual 84, 3) := by decide +kernel
theorem dX7_as_39 : decode cX7_as 39 = .ok (.ifCond .ne 11, 3) := by decide +kernel
theorem dX7_as_42 : decode cX7_as 42 = .ok (.aload_n 0, 1) := by decide +kernel
theorem dX7_as_43 : decode cX7_as 43 = .ok (.ldc_w 271, 3) := by decide +kernel
theorem dX7_as_46 : decode cX7_as 46 = .ok (.invokevirtual 56, 3) := by decide +kernel
theorem dX7_as_49 : decode cX7_as 49 = .ok (.ireturn, 1) := by decide +kernel
theorem dX7_as_50 : decode cX7_as 50 = .ok (.aload_n 0, 1) := by decide +kernel
theorem dX7_as_51 : decode cX7_as 51 = .ok (.getfield 12, 3) := by decide +kernel
theorem dX7_as_54 : decode cX7_as 54 = .ok (.getfield 219, 3) := by decide +kernel
theorem dX7_as_57 : decode cX7_as 57 = .ok (.iload_n 3, 1) := by decide +kernel
theorem dX7_as_58 : decode cX7_as 58 = .ok (.iaload, 1) := by decide +kernel
theorem dX7_as_59 : decode cX7_as 59 = .ok (.iload_n 2, 1) := by decide +kernel
theorem dX7_as_60 : decode cX7_as 60 = .ok (.invokestatic 272, 3) := by decide +kernel
theorem dX7_as_63 : decode cX7_as 63 = .ok (.ifCond .eq 7, 3) := by decide +kernel
theorem dX7_as_66 : decode cX7_as 66 = .ok (.iload_n 3, 1) := by decide +kernel
theorem dX7_as_67 : decode cX7_as 67 = .ok (.goto 10, 3) := by decide +kernel
theorem dX7_as_70 : decode cX7_as 70 = .ok (.aload_n 0, 1) := by decide +kernel
theorem dX7_as_71 : decode cX7_as 71 = .ok (.ldc_w 277, 3) := by decide +kernel
theorem dX7_as_74 : decode cX7_as 74 = .ok (.invokevirtual 56, 3) := by decide +kernel
theorem dX7_as_77 : decode cX7_as 77 = .ok (.ireturn, 1) := by decide +kernel
theorem dX7_sheet_0 : decode cX7_sheet 0 = .ok (.iload_n 1, 1) := by decide +kernel
theorem dX7_sheet_1 : decode cX7_sheet 1 = .ok (.invokestatic 278, 3) := by decide +kernel
theorem dX7_sheet_4 : decode cX7_sheet 4 = .ok (.ifCond .eq 25, 3) := by decide +kernel
theorem dX7_sheet_7 : decode cX7_sheet 7 = .ok (.iload_n 2, 1) := by decide +kernel
theorem dX7_sheet_8 : decode cX7_sheet 8 = .ok (.ifCond .eq 28, 3) := by decide +kernel
theorem dX7_sheet_11 : decode cX7_sheet 11 = .ok (.iload_n 2, 1) := by decide +kernel
theorem dX7_sheet_12 : decode cX7_sheet 12 = .ok (.bipush 8, 2) := by decide +kernel
theorem dX7_sheet_14 : decode cX7_sheet 14 = .ok (.if_icmp .eq 22, 3) := by decide +kernel
theorem dX7_sheet_17 : decode cX7_sheet 17 = .ok (.iload_n 2, 1) := by decide +kernel
theorem dX7_sheet_18 : decode cX7_sheet 18 = .ok (.bipush 16, 2) := by decide +kernel
theorem dX7_sheet_20 : decode cX7_sheet 20 = .ok (.if_icmp .eq 16, 3) := by decide +kernel
theorem dX7_sheet_23 : decode cX7_sheet 23 = .ok (.iload_n 2, 1) := by decide +kernel
theorem dX7_sheet_24 : decode cX7_sheet 24 = .ok (.bipush 32, 2) := by decide +kernel
theorem dX7_sheet_26 : decode cX7_sheet 26 = .ok (.if_icmp .eq 10, 3) := by decide +kernel
theorem dX7_sheet_29 : decode cX7_sheet 29 = .ok (.aload_n 0, 1) := by decide +kernel
theorem dX7_sheet_30 : decode cX7_sheet 30 = .ok (.ldc 55, 2) := by decide +kernel
theorem dX7_sheet_32 : decode cX7_sheet 32 = .ok (.invokevirtual 56, 3) := by decide +kernel
theorem dX7_sheet_35 : decode cX7_sheet 35 = .ok (.ireturn, 1) := by decide +kernel
theorem dX7_sheet_36 : decode cX7_sheet 36 = .ok (.iload_n 3, 1) := by decide +kernel
theorem dX7_sheet_37 : decode cX7_sheet 37 = .ok (.ifCond .ge 10, 3) := by decide +kernel
theorem dX7_sheet_40 : decode cX7_sheet 40 = .ok (.aload_n 0, 1) := by decide +kernel
theorem dX7_sheet_41 : decode cX7_sheet 41 = .ok (.ldc 234, 2) := by decide +kernel
theorem dX7_sheet_43 : decode cX7_sheet 43 = .ok (.invokevirtual 56, 3) := by decide +kernel
theorem dX7_sheet_46 : decode cX7_sheet 46 = .ok (.ireturn, 1) := by decide +kernel
theorem dX7_sheet_47 : decode cX7_sheet 47 = .ok (.iload_n 3, 1) := by decide +kernel
theorem dX7_sheet_48 : decode cX7_sheet 48 = .ok (.bipush 40, 2) := by decide +kernel
theorem dX7_sheet_50 : decode cX7_sheet 50 = .ok (.if_icmp .le 10, 3) := by decide +kernel
theorem dX7_sheet_53 : decode cX7_sheet 53 = .ok (.aload_n 0, 1) := by decide +kernel
theorem dX7_sheet_54 : decode cX7_sheet 54 = .ok (.ldc 55, 2) := by decide +kernel
theorem dX7_sheet_56 : decode cX7_sheet 56 = .ok (.invokevirtual 56, 3) := by decide +kernel
theorem dX7_sheet_59 : decode cX7_sheet 59 = .ok (.ireturn, 1) := by decide +kernel
theorem dX7_sheet_60 : decode cX7_sheet 60 = .ok (.aload_n 0, 1) := by decide +kernel
theorem dX7_sheet_61 : decode cX7_sheet 61 = .ok (.getfield 38, 3) := by decide +kernel
theorem dX7_sheet_64 : decode cX7_sheet 64 = .ok (.iload_n 1, 1) := by decide +kernel
theorem dX7_sheet_65 : decode cX7_sheet 65 = .ok (.aaload, 1) := by decide +kernel
theorem dX7_sheet_66 : decode cX7_sheet 66 = .ok (.iload_n 2, 1) := by decide +kernel
theorem dX7_sheet_67 : decode cX7_sheet 67 = .ok (.iload_n 3, 1) := by decide +kernel
theorem dX7_sheet_68 : decode cX7_sheet 68 = .ok (.invokevirtual 281, 3) := by decide +kernel
theorem dX7_sheet_71 : decode cX7_sheet 71 = .ok (.aload_n 0, 1) := by decide +kernel
theorem dX7_sheet_72 : decode cX7_sheet 72 = .ok (.getfield 38, 3) := by decide +kernel
theorem dX7_sheet_75 : decode cX7_sheet 75 = .ok (.iload_n 1, 1) := by decide +kernel
theorem dX7_sheet_76 : decode cX7_sheet 76 = .ok (.aaload, 1) := by decide +kernel
theorem dX7_sheet_77 : decode cX7_sheet 77 = .ok (.getfield 284, 3) := by decide +kernel
theorem dX7_sheet_80 : decode cX7_sheet 80 = .ok (.ireturn, 1) := by decide +kernel
theorem dX7_write_0 : decode cX7_write 0 = .ok (.iload_n 1, 1) := by decide +kernel
theorem dX7_write_1 : decode cX7_write 1 = .ok (.invokestatic 278, 3) := by decide +kernel
theorem dX7_write_4 : decode cX7_write 4 = .ok (.ifCond .ne 10, 3) := by decide +kernel
theorem dX7_write_7 : decode cX7_write 7 = .ok (.aload_n 0, 1) := by decide +kernel
theorem dX7_write_8 : decode cX7_write 8 = .ok (.ldc 55, 2) := by decide +kernel
theorem dX7_write_10 : decode cX7_write 10 = .ok (.invokevirtual 56, 3) := by decide +kernel
theorem dX7_write_13 : decode cX7_write 13 = .ok (.ireturn, 1) := by decide +kernel
theorem dX7_write_14 : decode cX7_write 14 = .ok (.aload_n 0, 1) := by decide +kernel
theorem dX7_write_15 : decode cX7_write 15 = .ok (.getfield 38, 3) := by decide +kernel
theorem dX7_write_18 : decode cX7_write 18 = .ok (.iload_n 1, 1) := by decide +kernel
theorem dX7_write_19 : decode cX7_write 19 = .ok (.aaload, 1) := by decide +kernel
theorem dX7_write_20 : decode cX7_write 20 = .ok (.invokevirtual 285, 3) := by decide +kernel
theorem dX7_write_23 : decode cX7_write 23 = .ok (.ifCond .eq 11, 3) := by decide +kernel
theorem dX7_write_26 : decode cX7_write 26 = .ok (.aload_n 0, 1) := by decide +kernel
theorem dX7_write_27 : decode cX7_write 27 = .ok (.ldc_w 271, 3) := by decide +kernel
theorem dX7_write_30 : decode cX7_write 30 = .ok (.invokevirtual 56, 3) := by decide +kernel
theorem dX7_write_33 : decode cX7_write 33 = .ok (.ireturn, 1) := by decide +kernel
theorem dX7_write_34 : decode cX7_write 34 = .ok (.iload_n 2, 1) := by decide +kernel
theorem dX7_write_35 : decode cX7_write 35 = .ok (.iconst 0, 1) := by decide +kernel
theorem dX7_write_36 : decode cX7_write 36 = .ok (.aload_n 0, 1) := by decide +kernel
theorem dX7_write_37 : decode cX7_write 37 = .ok (.getfield 38, 3) := by decide +kernel
theorem dX7_write_40 : decode cX7_write 40 = .ok (.iload_n 1, 1) := by decide +kernel
theorem dX7_write_41 : decode cX7_write 41 = .ok (.aaload, 1) := by decide +kernel
theorem dX7_write_42 : decode cX7_write 42 = .ok (.getfield 284, 3) := by decide +kernel
theorem dX7_write_45 : decode cX7_write 45 = .ok (.iconst 1, 1) := by decide +kernel
theorem dX7_write_46 : decode cX7_write 46 = .ok (.isub, 1) := by decide +kernel
theorem dX7_write_47 : decode cX7_write 47 = .ok (.invokestatic 51, 3) := by decide +kernel
theorem dX7_write_50 : decode cX7_write 50 = .ok (.ifCond .ne 10, 3) := by decide +kernel
theorem dX7_write_53 : decode cX7_write 53 = .ok (.aload_n 0, 1) := by decide +kernel
theorem dX7_write_54 : decode cX7_write 54 = .ok (.ldc 55, 2) := by decide +kernel
theorem dX7_write_56 : decode cX7_write 56 = .ok (.invokevirtual 56, 3) := by decide +kernel
theorem dX7_write_59 : decode cX7_write 59 = .ok (.ireturn, 1) := by decide +kernel
theorem dX7_write_60 : decode cX7_write 60 = .ok (.aload_n 0, 1) := by decide +kernel
theorem dX7_write_61 : decode cX7_write 61 = .ok (.getfield 38, 3) := by decide +kernel
theorem dX7_write_64 : decode cX7_write 64 = .ok (.iload_n 1, 1) := by decide +kernel
theorem dX7_write_65 : decode cX7_write 65 = .ok (.aaload, 1) := by decide +kernel
theorem dX7_write_66 : decode cX7_write 66 = .ok (.iload_n 2, 1) := by decide +kernel
theorem dX7_write_67 : decode cX7_write 67 = .ok (.iload_n 3, 1) := by decide +kernel
theorem dX7_write_68 : decode cX7_write 68 = .ok (.invokevirtual 289, 3) := by decide +kernel
theorem dX7_write_71 : decode cX7_write 71 = .ok (.iconst 1, 1) := by decide +kernel
theorem dX7_write_72 : decode cX7_write 72 = .ok (.ireturn, 1) := by decide +kernel
theorem dX7_copy_0 : decode cX7_copy 0 = .ok (.iload_n 1, 1) := by decide +kernel
theorem dX7_copy_1 : decode cX7_copy 1 = .ok (.invokestatic 278, 3) := by decide +kernel
theorem dX7_copy_4 : decode cX7_copy 4 = .ok (.ifCond .eq 10, 3) := by decide +kernel
theorem dX7_copy_7 : decode cX7_copy 7 = .ok (.iload_n 3, 1) := by decide +kernel
theorem dX7_copy_8 : decode cX7_copy 8 = .ok (.invokestatic 278, 3) := by decide +kernel
theorem dX7_copy_11 : decode cX7_copy 11 = .ok (.ifCond .ne 10, 3) := by decide +kernel
theorem dX7_copy_14 : decode cX7_copy 14 = .ok (.aload_n 0, 1) := by decide +kernel
theorem dX7_copy_15 : decode cX7_copy 15 = .ok (.ldc 55, 2) := by decide +kernel
theorem dX7_copy_17 : decode cX7_copy 17 = .ok (.invokevirtual 56, 3) := by decide +kernel
theorem dX7_copy_20 : decode cX7_copy 20 = .ok (.ireturn, 1) := by decide +kernel
theorem dX7_copy_21 : decode cX7_copy 21 = .ok (.aload_n 0, 1) := by decide +kernel
theorem dX7_copy_22 : decode cX7_copy 22 = .ok (.getfield 38, 3) := by decide +kernel
theorem dX7_copy_25 : decode cX7_copy 25 = .ok (.iload_n 1, 1) := by decide +kernel
theorem dX7_copy_26 : decode cX7_copy 26 = .ok (.aaload, 1) := by decide +kernel
theorem dX7_copy_27 : decode cX7_copy 27 = .ok (.invokevirtual 285, 3) := by decide +kernel
theorem dX7_copy_30 : decode cX7_copy 30 = .ok (.ifCond .ne 15, 3) := by decide +kernel
theorem dX7_copy_33 : decode cX7_copy 33 = .ok (.aload_n 0, 1) := by decide +kernel
theorem dX7_copy_34 : decode cX7_copy 34 = .ok (.getfield 38, 3) := by decide +kernel
theorem dX7_copy_37 : decode cX7_copy 37 = .ok (.iload_n 3, 1) := by decide +kernel
theorem dX7_copy_38 : decode cX7_copy 38 = .ok (.aaload, 1) := by decide +kernel
theorem dX7_copy_39 : decode cX7_copy 39 = .ok (.invokevirtual 285, 3) := by decide +kernel
theorem dX7_copy_42 : decode cX7_copy 42 = .ok (.ifCond .eq 11, 3) := by decide +kernel
theorem dX7_copy_45 : decode cX7_copy 45 = .ok (.aload_n 0, 1) := by decide +kernel
theorem dX7_copy_46 : decode cX7_copy 46 = .ok (.ldc_w 271, 3) := by decide +kernel
theorem dX7_copy_49 : decode cX7_copy 49 = .ok (.invokevirtual 56, 3) := by decide +kernel
theorem dX7_copy_52 : decode cX7_copy 52 = .ok (.ireturn, 1) := by decide +kernel
theorem dX7_copy_53 : decode cX7_copy 53 = .ok (.aload_n 0, 1) := by decide +kernel
theorem dX7_copy_54 : decode cX7_copy 54 = .ok (.getfield 38, 3) := by decide +kernel
theorem dX7_copy_57 : decode cX7_copy 57 = .ok (.iload_n 1, 1) := by decide +kernel
theorem dX7_copy_58 : decode cX7_copy 58 = .ok (.aaload, 1) := by decide +kernel
theorem dX7_copy_59 : decode cX7_copy 59 = .ok (.getfield 292, 3) := by decide +kernel
theorem dX7_copy_62 : decode cX7_copy 62 = .ok (.aload_n 0, 1) := by decide +kernel
theorem dX7_copy_63 : decode cX7_copy 63 = .ok (.getfield 38, 3) := by decide +kernel
theorem dX7_copy_66 : decode cX7_copy 66 = .ok (.iload_n 3, 1) := by decide +kernel
theorem dX7_copy_67 : decode cX7_copy 67 = .ok (.aaload, 1) := by decide +kernel
theorem dX7_copy_68 : decode cX7_copy 68 = .ok (.getfield 292, 3) := by decide +kernel
theorem dX7_copy_71 : decode cX7_copy 71 = .ok (.if_icmp .eq 11, 3) := by decide +kernel
theorem dX7_copy_74 : decode cX7_copy 74 = .ok (.aload_n 0, 1) := by decide +kernel
theorem dX7_copy_75 : decode cX7_copy 75 = .ok (.ldc_w 277, 3) := by decide +kernel
theorem dX7_copy_78 : decode cX7_copy 78 = .ok (.invokevirtual 56, 3) := by decide +kernel
theorem dX7_copy_81 : decode cX7_copy 81 = .ok (.ireturn, 1) := by decide +kernel
theorem dX7_copy_82 : decode cX7_copy 82 = .ok (.aload_n 0, 1) := by decide +kernel
theorem dX7_copy_83 : decode cX7_copy 83 = .ok (.getfield 38, 3) := by decide +kernel
theorem dX7_copy_86 : decode cX7_copy 86 = .ok (.iload_n 1, 1) := by decide +kernel
theorem dX7_copy_87 : decode cX7_copy 87 = .ok (.aaload, 1) := by decide +kernel
theorem dX7_copy_88 : decode cX7_copy 88 = .ok (.iload_n 2, 1) := by decide +kernel
theorem dX7_copy_89 : decode cX7_copy 89 = .ok (.iload 5, 2) := by decide +kernel
theorem dX7_copy_91 : decode cX7_copy 91 = .ok (.invokevirtual 295, 3) := by decide +kernel
theorem dX7_copy_94 : decode cX7_copy 94 = .ok (.ifCond .eq 19, 3) := by decide +kernel
theorem dX7_copy_97 : decode cX7_copy 97 = .ok (.aload_n 0, 1) := by decide +kernel
theorem dX7_copy_98 : decode cX7_copy 98 = .ok (.getfield 38, 3) := by decide +kernel
theorem dX7_copy_101 : decode cX7_copy 101 = .ok (.iload_n 3, 1) := by decide +kernel
theorem dX7_copy_102 : decode cX7_copy 102 = .ok (.aaload, 1) := by decide +kernel
theorem dX7_copy_103 : decode cX7_copy 103 = .ok (.iload 4, 2) := by decide +kernel
theorem dX7_copy_105 : decode cX7_copy 105 = .ok (.iload 5, 2) := by decide +kernel
theorem dX7_copy_107 : decode cX7_copy 107 = .ok (.invokevirtual 295, 3) := by decide +kernel
theorem dX7_copy_110 : decode cX7_copy 110 = .ok (.ifCond .ne 10, 3) := by decide +kernel
theorem dX7_copy_113 : decode cX7_copy 113 = .ok (.aload_n 0, 1) := by decide +kernel
theorem dX7_copy_114 : decode cX7_copy 114 = .ok (.ldc 55, 2) := by decide +kernel
theorem dX7_copy_116 : decode cX7_copy 116 = .ok (.invokevirtual 56, 3) := by decide +kernel
theorem dX7_copy_119 : decode cX7_copy 119 = .ok (.ireturn, 1) := by decide +kernel
theorem dX7_copy_120 : decode cX7_copy 120 = .ok (.aload_n 0, 1) := by decide +kernel
theorem dX7_copy_121 : decode cX7_copy 121 = .ok (.getfield 38, 3) := by decide +kernel
theorem dX7_copy_124 : decode cX7_copy 124 = .ok (.iload_n 1, 1) := by decide +kernel
theorem dX7_copy_125 : decode cX7_copy 125 = .ok (.aaload, 1) := by decide +kernel
theorem dX7_copy_126 : decode cX7_copy 126 = .ok (.getfield 298, 3) := by decide +kernel
theorem dX7_copy_129 : decode cX7_copy 129 = .ok (.iload_n 2, 1) := by decide +kernel
theorem dX7_copy_130 : decode cX7_copy 130 = .ok (.aload_n 0, 1) := by decide +kernel
theorem dX7_copy_131 : decode cX7_copy 131 = .ok (.getfield 38, 3) := by decide +kernel
theorem dX7_copy_134 : decode cX7_copy 134 = .ok (.iload_n 3, 1) := by decide +kernel
theorem dX7_copy_135 : decode cX7_copy 135 = .ok (.aaload, 1) := by decide +kernel
theorem dX7_copy_136 : decode cX7_copy 136 = .ok (.getfield 298, 3) := by decide +kernel
theorem dX7_copy_139 : decode cX7_copy 139 = .ok (.iload 4, 2) := by decide +kernel
theorem dX7_copy_141 : decode cX7_copy 141 = .ok (.iload 5, 2) := by decide +kernel
theorem dX7_copy_143 : decode cX7_copy 143 = .ok (.invokestatic 301, 3) := by decide +kernel
theorem dX7_copy_146 : decode cX7_copy 146 = .ok (.iload 5, 2) := by decide +kernel
theorem dX7_copy_148 : decode cX7_copy 148 = .ok (.ireturn, 1) := by decide +kernel
theorem dX7_load_0 : decode cX7_load 0 = .ok (.iload_n 1, 1) := by decide +kernel
theorem dX7_load_1 : decode cX7_load 1 = .ok (.invokestatic 278, 3) := by decide +kernel
theorem dX7_load_4 : decode cX7_load 4 = .ok (.ifCond .ne 10, 3) := by decide +kernel
theorem dX7_load_7 : decode cX7_load 7 = .ok (.aload_n 0, 1) := by decide +kernel
theorem dX7_load_8 : decode cX7_load 8 = .ok (.ldc 55, 2) := by decide +kernel
theorem dX7_load_10 : decode cX7_load 10 = .ok (.invokevirtual 56, 3) := by decide +kernel
theorem dX7_load_13 : decode cX7_load 13 = .ok (.ireturn, 1) := by decide +kernel
theorem dX7_load_14 : decode cX7_load 14 = .ok (.aload_n 0, 1) := by decide +kernel
theorem dX7_load_15 : decode cX7_load 15 = .ok (.getfield 38, 3) := by decide +kernel
theorem dX7_load_18 : decode cX7_load 18 = .ok (.iload_n 1, 1) := by decide +kernel
theorem dX7_load_19 : decode cX7_load 19 = .ok (.aaload, 1) := by decide +kernel
theorem dX7_load_20 : decode cX7_load 20 = .ok (.invokevirtual 285, 3) := by decide +kernel
theorem dX7_load_23 : decode cX7_load 23 = .ok (.ifCond .eq 11, 3) := by decide +kernel
theorem dX7_load_26 : decode cX7_load 26 = .ok (.aload_n 0, 1) := by decide +kernel
theorem dX7_load_27 : decode cX7_load 27 = .ok (.ldc_w 271, 3) := by decide +kernel
theorem dX7_load_30 : decode cX7_load 30 = .ok (.invokevirtual 56, 3) := by decide +kernel
theorem dX7_load_33 : decode cX7_load 33 = .ok (.ireturn, 1) := by decide +kernel
theorem dX7_load_34 : decode cX7_load 34 = .ok (.iconst 0, 1) := by decide +kernel
theorem dX7_load_35 : decode cX7_load 35 = .ok (.istore_n 2, 1) := by decide +kernel
theorem dX7_load_36 : decode cX7_load 36 = .ok (.iconst 0, 1) := by decide +kernel
theorem dX7_load_37 : decode cX7_load 37 = .ok (.istore_n 3, 1) := by decide +kernel
theorem dX7_load_38 : decode cX7_load 38 = .ok (.iload_n 3, 1) := by decide +kernel
theorem dX7_load_39 : decode cX7_load 39 = .ok (.aload_n 0, 1) := by decide +kernel
theorem dX7_load_40 : decode cX7_load 40 = .ok (.getfield 38, 3) := by decide +kernel
theorem dX7_load_43 : decode cX7_load 43 = .ok (.iload_n 1, 1) := by decide +kernel
theorem dX7_load_44 : decode cX7_load 44 = .ok (.aaload, 1) := by decide +kernel
theorem dX7_load_45 : decode cX7_load 45 = .ok (.getfield 284, 3) := by decide +kernel
theorem dX7_load_48 : decode cX7_load 48 = .ok (.if_icmp .ge 55, 3) := by decide +kernel
theorem dX7_load_51 : decode cX7_load 51 = .ok (.aload_n 0, 1) := by decide +kernel
theorem dX7_load_52 : decode cX7_load 52 = .ok (.iload_n 3, 1) := by decide +kernel
theorem dX7_load_53 : decode cX7_load 53 = .ok (.invokevirtual 84, 3) := by decide +kernel
theorem dX7_load_56 : decode cX7_load 56 = .ok (.ifCond .eq 47, 3) := by decide +kernel
theorem dX7_load_59 : decode cX7_load 59 = .ok (.aload_n 0, 1) := by decide +kernel
theorem dX7_load_60 : decode cX7_load 60 = .ok (.getfield 38, 3) := by decide +kernel
theorem dX7_load_63 : decode cX7_load 63 = .ok (.iload_n 1, 1) := by decide +kernel
theorem dX7_load_64 : decode cX7_load 64 = .ok (.aaload, 1) := by decide +kernel
theorem dX7_load_65 : decode cX7_load 65 = .ok (.getfield 298, 3) := by decide +kernel
theorem dX7_load_68 : decode cX7_load 68 = .ok (.iload_n 3, 1) := by decide +kernel
theorem dX7_load_69 : decode cX7_load 69 = .ok (.iaload, 1) := by decide +kernel
theorem dX7_load_70 : decode cX7_load 70 = .ok (.istore 4, 2) := by decide +kernel
theorem dX7_load_72 : decode cX7_load 72 = .ok (.iload 4, 2) := by decide +kernel
theorem dX7_load_74 : decode cX7_load 74 = .ok (.invokestatic 47, 3) := by decide +kernel
theorem dX7_load_77 : decode cX7_load 77 = .ok (.ifCond .ne 6, 3) := by decide +kernel
theorem dX7_load_80 : decode cX7_load 80 = .ok (.goto 23, 3) := by decide +kernel
theorem dX7_load_83 : decode cX7_load 83 = .ok (.aload_n 0, 1) := by decide +kernel
theorem dX7_load_84 : decode cX7_load 84 = .ok (.getfield 12, 3) := by decide +kernel
theorem dX7_load_87 : decode cX7_load 87 = .ok (.getfield 150, 3) := by decide +kernel
theorem dX7_load_90 : decode cX7_load 90 = .ok (.iload_n 3, 1) := by decide +kernel
theorem dX7_load_91 : decode cX7_load 91 = .ok (.iload 4, 2) := by decide +kernel
theorem dX7_load_93 : decode cX7_load 93 = .ok (.iastore, 1) := by decide +kernel
theorem dX7_load_94 : decode cX7_load 94 = .ok (.iinc 2 1, 3) := by decide +kernel
theorem dX7_load_97 : decode cX7_load 97 = .ok (.iinc 3 1, 3) := by decide +kernel
theorem dX7_load_100 : decode cX7_load 100 = .ok (.goto (-62), 3) := by decide +kernel
theorem dX7_load_103 : decode cX7_load 103 = .ok (.iload_n 2, 1) := by decide +kernel
theorem dX7_load_104 : decode cX7_load 104 = .ok (.ireturn, 1) := by decide +kernel
theorem dX7_judge_0 : decode cX7_judge 0 = .ok (.iload_n 1, 1) := by decide +kernel
theorem dX7_judge_1 : decode cX7_judge 1 = .ok (.invokestatic 278, 3) := by decide +kernel
theorem dX7_judge_4 : decode cX7_judge 4 = .ok (.ifCond .ne 10, 3) := by decide +kernel
theorem dX7_judge_7 : decode cX7_judge 7 = .ok (.aload_n 0, 1) := by decide +kernel
theorem dX7_judge_8 : decode cX7_judge 8 = .ok (.ldc 55, 2) := by decide +kernel
theorem dX7_judge_10 : decode cX7_judge 10 = .ok (.invokevirtual 56, 3) := by decide +kernel
theorem dX7_judge_13 : decode cX7_judge 13 = .ok (.ireturn, 1) := by decide +kernel
theorem dX7_judge_14 : decode cX7_judge 14 = .ok (.aload_n 0, 1) := by decide +kernel
theorem dX7_judge_15 : decode cX7_judge 15 = .ok (.getfield 38, 3) := by decide +kernel
theorem dX7_judge_18 : decode cX7_judge 18 = .ok (.iload_n 1, 1) := by decide +kernel
theorem dX7_judge_19 : decode cX7_judge 19 = .ok (.aaload, 1) := by decide +kernel
theorem dX7_judge_20 : decode cX7_judge 20 = .ok (.invokevirtual 285, 3) := by decide +kernel
theorem dX7_judge_23 : decode cX7_judge 23 = .ok (.ifCond .eq 11, 3) := by decide +kernel
theorem dX7_judge_26 : decode cX7_judge 26 = .ok (.aload_n 0, 1) := by decide +kernel
theorem dX7_judge_27 : decode cX7_judge 27 = .ok (.ldc_w 271, 3) := by decide +kernel
theorem dX7_judge_30 : decode cX7_judge 30 = .ok (.invokevirtual 56, 3) := by decide +kernel
theorem dX7_judge_33 : decode cX7_judge 33 = .ok (.ireturn, 1) := by decide +kernel
theorem dX7_judge_34 : decode cX7_judge 34 = .ok (.aload_n 0, 1) := by decide +kernel
theorem dX7_judge_35 : decode cX7_judge 35 = .ok (.iload_n 2, 1) := by decide +kernel
theorem dX7_judge_36 : decode cX7_judge 36 = .ok (.invokevirtual 109, 3) := by decide +kernel
theorem dX7_judge_39 : decode cX7_judge 39 = .ok (.ifCond .ne 10, 3) := by decide +kernel
theorem dX7_judge_42 : decode cX7_judge 42 = .ok (.aload_n 0, 1) := by decide +kernel
theorem dX7_judge_43 : decode cX7_judge 43 = .ok (.ldc 55, 2) := by decide +kernel
theorem dX7_judge_45 : decode cX7_judge 45 = .ok (.invokevirtual 56, 3) := by decide +kernel
theorem dX7_judge_48 : decode cX7_judge 48 = .ok (.ireturn, 1) := by decide +kernel
theorem dX7_judge_49 : decode cX7_judge 49 = .ok (.lconst 1, 1) := by decide +kernel
theorem dX7_judge_50 : decode cX7_judge 50 = .ok (.aload_n 0, 1) := by decide +kernel
theorem dX7_judge_51 : decode cX7_judge 51 = .ok (.getfield 12, 3) := by decide +kernel
theorem dX7_judge_54 : decode cX7_judge 54 = .ok (.getfield 129, 3) := by decide +kernel
theorem dX7_judge_57 : decode cX7_judge 57 = .ok (.iload_n 2, 1) := by decide +kernel
theorem dX7_judge_58 : decode cX7_judge 58 = .ok (.iaload, 1) := by decide +kernel
theorem dX7_judge_59 : decode cX7_judge 59 = .ok (.lshl, 1) := by decide +kernel
theorem dX7_judge_60 : decode cX7_judge 60 = .ok (.lstore_n 3, 1) := by decide +kernel
theorem dX7_judge_61 : decode cX7_judge 61 = .ok (.iconst 0, 1) := by decide +kernel
theorem dX7_judge_62 : decode cX7_judge 62 = .ok (.istore 5, 2) := by decide +kernel
theorem dX7_judge_64 : decode cX7_judge 64 = .ok (.iload 5, 2) := by decide +kernel
theorem dX7_judge_66 : decode cX7_judge 66 = .ok (.aload_n 0, 1) := by decide +kernel
theorem dX7_judge_67 : decode cX7_judge 67 = .ok (.getfield 38, 3) := by decide +kernel
theorem dX7_judge_70 : decode cX7_judge 70 = .ok (.iload_n 1, 1) := by decide +kernel
theorem dX7_judge_71 : decode cX7_judge 71 = .ok (.aaload, 1) := by decide +kernel
theorem dX7_judge_72 : decode cX7_judge 72 = .ok (.getfield 284, 3) := by decide +kernel
theorem dX7_judge_75 : decode cX7_judge 75 = .ok (.if_icmp .ge 59, 3) := by decide +kernel
theorem dX7_judge_78 : decode cX7_judge 78 = .ok (.aload_n 0, 1) := by decide +kernel
theorem dX7_judge_79 : decode cX7_judge 79 = .ok (.getfield 38, 3) := by decide +kernel
theorem dX7_judge_82 : decode cX7_judge 82 = .ok (.iload_n 1, 1) := by decide +kernel
theorem dX7_judge_83 : decode cX7_judge 83 = .ok (.aaload, 1) := by decide +kernel
theorem dX7_judge_84 : decode cX7_judge 84 = .ok (.getfield 298, 3) := by decide +kernel
theorem dX7_judge_87 : decode cX7_judge 87 = .ok (.iload 5, 2) := by decide +kernel
theorem dX7_judge_89 : decode cX7_judge 89 = .ok (.iaload, 1) := by decide +kernel
theorem dX7_judge_90 : decode cX7_judge 90 = .ok (.istore 6, 2) := by decide +kernel
theorem dX7_judge_92 : decode cX7_judge 92 = .ok (.iload 6, 2) := by decide +kernel
theorem dX7_judge_94 : decode cX7_judge 94 = .ok (.invokestatic 100, 3) := by decide +kernel
theorem dX7_judge_97 : decode cX7_judge 97 = .ok (.ifCond .eq 14, 3) := by decide +kernel
theorem dX7_judge_100 : decode cX7_judge 100 = .ok (.lload_n 3, 1) := by decide +kernel
theorem dX7_judge_101 : decode cX7_judge 101 = .ok (.iload 6, 2) := by decide +kernel
theorem dX7_judge_103 : decode cX7_judge 103 = .ok (.lushr, 1) := by decide +kernel
theorem dX7_judge_104 : decode cX7_judge 104 = .ok (.lconst 1, 1) := by decide +kernel
theorem dX7_judge_105 : decode cX7_judge 105 = .ok (.land, 1) := by decide +kernel
theorem dX7_judge_106 : decode cX7_judge 106 = .ok (.lconst 0, 1) := by decide +kernel
theorem dX7_judge_107 : decode cX7_judge 107 = .ok (.lcmp, 1) := by decide +kernel
theorem dX7_judge_108 : decode cX7_judge 108 = .ok (.ifCond .ne 8, 3) := by decide +kernel
theorem dX7_judge_111 : decode cX7_judge 111 = .ok (.iconst 1, 1) := by decide +kernel
theorem dX7_judge_112 : decode cX7_judge 112 = .ok (.iload 5, 2) := by decide +kernel
theorem dX7_judge_114 : decode cX7_judge 114 = .ok (.iadd, 1) := by decide +kernel
theorem dX7_judge_115 : decode cX7_judge 115 = .ok (.ireturn, 1) := by decide +kernel
theorem dX7_judge_116 : decode cX7_judge 116 = .ok (.aload_n 0, 1) := by decide +kernel
theorem dX7_judge_117 : decode cX7_judge 117 = .ok (.getfield 12, 3) := by decide +kernel
theorem dX7_judge_120 : decode cX7_judge 120 = .ok (.lconst 1, 1) := by decide +kernel
theorem dX7_judge_121 : decode cX7_judge 121 = .ok (.iload 6, 2) := by decide +kernel
theorem dX7_judge_123 : decode cX7_judge 123 = .ok (.lshl, 1) := by decide +kernel
theorem dX7_judge_124 : decode cX7_judge 124 = .ok (.invokevirtual 307, 3) := by decide +kernel
theorem dX7_judge_127 : decode cX7_judge 127 = .ok (.lstore_n 3, 1) := by decide +kernel
theorem dX7_judge_128 : decode cX7_judge 128 = .ok (.iinc 5 1, 3) := by decide +kernel
theorem dX7_judge_131 : decode cX7_judge 131 = .ok (.goto (-67), 3) := by decide +kernel
theorem dX7_judge_134 : decode cX7_judge 134 = .ok (.iconst 0, 1) := by decide +kernel
theorem dX7_judge_135 : decode cX7_judge 135 = .ok (.ireturn, 1) := by decide +kernel
theorem dX7_image_0 : decode cX7_image 0 = .ok (.aload_n 0, 1) := by decide +kernel
theorem dX7_image_1 : decode cX7_image 1 = .ok (.getfield 16, 3) := by decide +kernel
theorem dX7_image_4 : decode cX7_image 4 = .ok (.aload_n 0, 1) := by decide +kernel
theorem dX7_image_5 : decode cX7_image 5 = .ok (.getfield 12, 3) := by decide +kernel
theorem dX7_image_8 : decode cX7_image 8 = .ok (.invokevirtual 209, 3) := by decide +kernel
theorem dX7_image_11 : decode cX7_image 11 = .ok (.aload_n 0, 1) := by decide +kernel
theorem dX7_image_12 : decode cX7_image 12 = .ok (.iconst 1, 1) := by decide +kernel
theorem dX7_image_13 : decode cX7_image 13 = .ok (.putfield 311, 3) := by decide +kernel
theorem dX7_image_16 : decode cX7_image 16 = .ok (.iconst 1, 1) := by decide +kernel
theorem dX7_image_17 : decode cX7_image 17 = .ok (.ireturn, 1) := by decide +kernel
theorem dX7_undo_0 : decode cX7_undo 0 = .ok (.aload_n 0, 1) := by decide +kernel
theorem dX7_undo_1 : decode cX7_undo 1 = .ok (.getfield 311, 3) := by decide +kernel
theorem dX7_undo_4 : decode cX7_undo 4 = .ok (.ifCond .ne 10, 3) := by decide +kernel
theorem dX7_undo_7 : decode cX7_undo 7 = .ok (.aload_n 0, 1) := by decide +kernel
theorem dX7_undo_8 : decode cX7_undo 8 = .ok (.ldc 180, 2) := by decide +kernel
theorem dX7_undo_10 : decode cX7_undo 10 = .ok (.invokevirtual 56, 3) := by decide +kernel
theorem dX7_undo_13 : decode cX7_undo 13 = .ok (.ireturn, 1) := by decide +kernel
theorem dX7_undo_14 : decode cX7_undo 14 = .ok (.aload_n 0, 1) := by decide +kernel
theorem dX7_undo_15 : decode cX7_undo 15 = .ok (.getfield 12, 3) := by decide +kernel
theorem dX7_undo_18 : decode cX7_undo 18 = .ok (.aload_n 0, 1) := by decide +kernel
theorem dX7_undo_19 : decode cX7_undo 19 = .ok (.getfield 16, 3) := by decide +kernel
theorem dX7_undo_22 : decode cX7_undo 22 = .ok (.invokevirtual 209, 3) := by decide +kernel
theorem dX7_undo_25 : decode cX7_undo 25 = .ok (.aload_n 0, 1) := by decide +kernel
theorem dX7_undo_26 : decode cX7_undo 26 = .ok (.getfield 12, 3) := by decide +kernel
theorem dX7_undo_29 : decode cX7_undo 29 = .ok (.getfield 162, 3) := by decide +kernel
theorem dX7_undo_32 : decode cX7_undo 32 = .ok (.ireturn, 1) := by decide +kernel
theorem dX7_tear_0 : decode cX7_tear 0 = .ok (.aload_n 0, 1) := by decide +kernel
theorem dX7_tear_1 : decode cX7_tear 1 = .ok (.getfield 311, 3) := by decide +kernel
theorem dX7_tear_4 : decode cX7_tear 4 = .ok (.ifCond .eq 7, 3) := by decide +kernel
theorem dX7_tear_7 : decode cX7_tear 7 = .ok (.iconst 1, 1) := by decide +kernel
theorem dX7_tear_8 : decode cX7_tear 8 = .ok (.goto 4, 3) := by decide +kernel
theorem dX7_tear_11 : decode cX7_tear 11 = .ok (.iconst 0, 1) := by decide +kernel
theorem dX7_tear_12 : decode cX7_tear 12 = .ok (.istore_n 1, 1) := by decide +kernel
theorem dX7_tear_13 : decode cX7_tear 13 = .ok (.aload_n 0, 1) := by decide +kernel
theorem dX7_tear_14 : decode cX7_tear 14 = .ok (.iconst 0, 1) := by decide +kernel
theorem dX7_tear_15 : decode cX7_tear 15 = .ok (.putfield 311, 3) := by decide +kernel
theorem dX7_tear_18 : decode cX7_tear 18 = .ok (.iload_n 1, 1) := by decide +kernel
theorem dX7_tear_19 : decode cX7_tear 19 = .ok (.ireturn, 1) := by decide +kernel
theorem dX7_count_0 : decode cX7_count 0 = .ok (.iload_n 1, 1) := by decide +kernel
theorem dX7_count_1 : decode cX7_count 1 = .ok (.tableswitch 114 0 7 #[47, 55, 63, 71, 79, 87, 98, 106], 47) := by decide +kernel
theorem dX7_count_48 : decode cX7_count 48 = .ok (.aload_n 0, 1) := by decide +kernel
theorem dX7_count_49 : decode cX7_count 49 = .ok (.getfield 12, 3) := by decide +kernel
theorem dX7_count_52 : decode cX7_count 52 = .ok (.getfield 162, 3) := by decide +kernel
theorem dX7_count_55 : decode cX7_count 55 = .ok (.ireturn, 1) := by decide +kernel
theorem dX7_count_56 : decode cX7_count 56 = .ok (.aload_n 0, 1) := by decide +kernel
theorem dX7_count_57 : decode cX7_count 57 = .ok (.getfield 12, 3) := by decide +kernel
theorem dX7_count_60 : decode cX7_count 60 = .ok (.getfield 75, 3) := by decide +kernel
theorem dX7_count_63 : decode cX7_count 63 = .ok (.ireturn, 1) := by decide +kernel
theorem dX7_count_64 : decode cX7_count 64 = .ok (.aload_n 0, 1) := by decide +kernel
theorem dX7_count_65 : decode cX7_count 65 = .ok (.getfield 12, 3) := by decide +kernel
theorem dX7_count_68 : decode cX7_count 68 = .ok (.getfield 103, 3) := by decide +kernel
theorem dX7_count_71 : decode cX7_count 71 = .ok (.ireturn, 1) := by decide +kernel
theorem dX7_count_72 : decode cX7_count 72 = .ok (.aload_n 0, 1) := by decide +kernel
theorem dX7_count_73 : decode cX7_count 73 = .ok (.getfield 12, 3) := by decide +kernel
theorem dX7_count_76 : decode cX7_count 76 = .ok (.getfield 159, 3) := by decide +kernel
theorem dX7_count_79 : decode cX7_count 79 = .ok (.ireturn, 1) := by decide +kernel
theorem dX7_count_80 : decode cX7_count 80 = .ok (.aload_n 0, 1) := by decide +kernel
theorem dX7_count_81 : decode cX7_count 81 = .ok (.getfield 12, 3) := by decide +kernel
theorem dX7_count_84 : decode cX7_count 84 = .ok (.getfield 174, 3) := by decide +kernel
theorem dX7_count_87 : decode cX7_count 87 = .ok (.ireturn, 1) := by decide +kernel
theorem dX7_count_88 : decode cX7_count 88 = .ok (.aload_n 0, 1) := by decide +kernel
theorem dX7_count_89 : decode cX7_count 89 = .ok (.getfield 32, 3) := by decide +kernel
theorem dX7_count_92 : decode cX7_count 92 = .ok (.getfield 246, 3) := by decide +kernel
theorem dX7_count_95 : decode cX7_count 95 = .ok (.getfield 250, 3) := by decide +kernel
theorem dX7_count_98 : decode cX7_count 98 = .ok (.ireturn, 1) := by decide +kernel
theorem dX7_count_99 : decode cX7_count 99 = .ok (.aload_n 0, 1) := by decide +kernel
theorem dX7_count_100 : decode cX7_count 100 = .ok (.getfield 12, 3) := by decide +kernel
theorem dX7_count_103 : decode cX7_count 103 = .ok (.getfield 243, 3) := by decide +kernel
theorem dX7_count_106 : decode cX7_count 106 = .ok (.ireturn, 1) := by decide +kernel
theorem dX7_count_107 : decode cX7_count 107 = .ok (.aload_n 0, 1) := by decide +kernel
theorem dX7_count_108 : decode cX7_count 108 = .ok (.getfield 12, 3) := by decide +kernel
theorem dX7_count_111 : decode cX7_count 111 = .ok (.invokevirtual 315, 3) := by decide +kernel
theorem dX7_count_114 : decode cX7_count 114 = .ok (.ireturn, 1) := by decide +kernel
theorem dX7_count_115 : decode cX7_count 115 = .ok (.aload_n 0, 1) := by decide +kernel
theorem dX7_count_116 : decode cX7_count 116 = .ok (.ldc 55, 2) := by decide +kernel
theorem dX7_count_118 : decode cX7_count 118 = .ok (.invokevirtual 56, 3) := by decide +kernel
theorem dX7_count_121 : decode cX7_count 121 = .ok (.ireturn, 1) := by decide +kernel
theorem dX7_status_0 : decode cX7_status 0 = .ok (.iload_n 1, 1) := by decide +kernel
theorem dX7_status_1 : decode cX7_status 1 = .ok (.iconst (-1), 1) := by decide +kernel
theorem dX7_status_2 : decode cX7_status 2 = .ok (.bipush 6, 2) := by decide +kernel
theorem dX7_status_4 : decode cX7_status 4 = .ok (.invokestatic 51, 3) := by decide +kernel
theorem dX7_status_7 : decode cX7_status 7 = .ok (.ifCond .ne 10, 3) := by decide +kernel
theorem dX7_status_10 : decode cX7_status 10 = .ok (.aload_n 0, 1) := by decide +kernel
theorem dX7_status_11 : decode cX7_status 11 = .ok (.ldc 55, 2) := by decide +kernel
theorem dX7_status_13 : decode cX7_status 13 = .ok (.invokevirtual 56, 3) := by decide +kernel
theorem dX7_status_16 : decode cX7_status 16 = .ok (.ireturn, 1) := by decide +kernel
theorem dX7_status_17 : decode cX7_status 17 = .ok (.iload_n 1, 1) := by decide +kernel
theorem dX7_status_18 : decode cX7_status 18 = .ok (.ifCond .lt 10, 3) := by decide +kernel
theorem dX7_status_21 : decode cX7_status 21 = .ok (.aload_n 0, 1) := by decide +kernel
theorem dX7_status_22 : decode cX7_status 22 = .ok (.getfield 42, 3) := by decide +kernel
theorem dX7_status_25 : decode cX7_status 25 = .ok (.iload_n 1, 1) := by decide +kernel
theorem dX7_status_26 : decode cX7_status 26 = .ok (.iaload, 1) := by decide +kernel
theorem dX7_status_27 : decode cX7_status 27 = .ok (.ireturn, 1) := by decide +kernel
theorem dX7_status_28 : decode cX7_status 28 = .ok (.iconst 0, 1) := by decide +kernel
theorem dX7_status_29 : decode cX7_status 29 = .ok (.istore_n 2, 1) := by decide +kernel
theorem dX7_status_30 : decode cX7_status 30 = .ok (.iconst 0, 1) := by decide +kernel
theorem dX7_status_31 : decode cX7_status 31 = .ok (.istore_n 3, 1) := by decide +kernel
theorem dX7_status_32 : decode cX7_status 32 = .ok (.iload_n 3, 1) := by decide +kernel
theorem dX7_status_33 : decode cX7_status 33 = .ok (.bipush 7, 2) := by decide +kernel
theorem dX7_status_35 : decode cX7_status 35 = .ok (.if_icmp .ge 18, 3) := by decide +kernel
theorem dX7_status_38 : decode cX7_status 38 = .ok (.iload_n 2, 1) := by decide +kernel
theorem dX7_status_39 : decode cX7_status 39 = .ok (.aload_n 0, 1) := by decide +kernel
theorem dX7_status_40 : decode cX7_status 40 = .ok (.getfield 42, 3) := by decide +kernel
theorem dX7_status_43 : decode cX7_status 43 = .ok (.iload_n 3, 1) := by decide +kernel
theorem dX7_status_44 : decode cX7_status 44 = .ok (.iaload, 1) := by decide +kernel
theorem dX7_status_45 : decode cX7_status 45 = .ok (.iadd, 1) := by decide +kernel
theorem dX7_status_46 : decode cX7_status 46 = .ok (.istore_n 2, 1) := by decide +kernel
theorem dX7_status_47 : decode cX7_status 47 = .ok (.iinc 3 1, 3) := by decide +kernel
theorem dX7_status_50 : decode cX7_status 50 = .ok (.goto (-18), 3) := by decide +kernel
theorem dX7_status_53 : decode cX7_status 53 = .ok (.iload_n 2, 1) := by decide +kernel
theorem dX7_status_54 : decode cX7_status 54 = .ok (.ireturn, 1) := by decide +kernel
theorem dX7_finding_0 : decode cX7_finding 0 = .ok (.ldc 55, 2) := by decide +kernel
theorem dX7_finding_2 : decode cX7_finding 2 = .ok (.iload_n 1, 1) := by decide +kernel
theorem dX7_finding_3 : decode cX7_finding 3 = .ok (.isub, 1) := by decide +kernel
theorem dX7_finding_4 : decode cX7_finding 4 = .ok (.istore_n 2, 1) := by decide +kernel
theorem dX7_finding_5 : decode cX7_finding 5 = .ok (.iload_n 2, 1) := by decide +kernel
theorem dX7_finding_6 : decode cX7_finding 6 = .ok (.iconst 0, 1) := by decide +kernel
theorem dX7_finding_7 : decode cX7_finding 7 = .ok (.bipush 6, 2) := by decide +kernel
theorem dX7_finding_9 : decode cX7_finding 9 = .ok (.invokestatic 51, 3) := by decide +kernel
theorem dX7_finding_12 : decode cX7_finding 12 = .ok (.ifCond .eq 13, 3) := by decide +kernel
theorem dX7_finding_15 : decode cX7_finding 15 = .ok (.aload_n 0, 1) := by decide +kernel
theorem dX7_finding_16 : decode cX7_finding 16 = .ok (.getfield 42, 3) := by decide +kernel
theorem dX7_finding_19 : decode cX7_finding 19 = .ok (.iload_n 2, 1) := by decide +kernel
theorem dX7_finding_20 : decode cX7_finding 20 = .ok (.dup2, 1) := by decide +kernel
theorem dX7_finding_21 : decode cX7_finding 21 = .ok (.iaload, 1) := by decide +kernel
theorem dX7_finding_22 : decode cX7_finding 22 = .ok (.iconst 1, 1) := by decide +kernel
theorem dX7_finding_23 : decode cX7_finding 23 = .ok (.iadd, 1) := by decide +kernel
theorem dX7_finding_24 : decode cX7_finding 24 = .ok (.iastore, 1) := by decide +kernel
theorem dX7_finding_25 : decode cX7_finding 25 = .ok (.iload_n 1, 1) := by decide +kernel
theorem dX7_finding_26 : decode cX7_finding 26 = .ok (.ireturn, 1) := by decide +kernel
theorem dX7_foundOrNone_0 : decode cX7_foundOrNone 0 = .ok (.iload_n 1, 1) := by decide +kernel
theorem dX7_foundOrNone_1 : decode cX7_foundOrNone 1 = .ok (.iconst (-1), 1) := by decide +kernel
theorem dX7_foundOrNone_2 : decode cX7_foundOrNone 2 = .ok (.if_icmp .ne 12, 3) := by decide +kernel
theorem dX7_foundOrNone_5 : decode cX7_foundOrNone 5 = .ok (.aload_n 0, 1) := by decide +kernel
theorem dX7_foundOrNone_6 : decode cX7_foundOrNone 6 = .ok (.ldc 180, 2) := by decide +kernel
theorem dX7_foundOrNone_8 : decode cX7_foundOrNone 8 = .ok (.invokevirtual 56, 3) := by decide +kernel
theorem dX7_foundOrNone_11 : decode cX7_foundOrNone 11 = .ok (.goto 4, 3) := by decide +kernel
theorem dX7_foundOrNone_14 : decode cX7_foundOrNone 14 = .ok (.iload_n 1, 1) := by decide +kernel
theorem dX7_foundOrNone_15 : decode cX7_foundOrNone 15 = .ok (.ireturn, 1) := by decide +kernel
theorem dX7_isFewer_0 : decode cX7_isFewer 0 = .ok (.iload_n 0, 1) := by decide +kernel
theorem dX7_isFewer_1 : decode cX7_isFewer 1 = .ok (.iconst (-1), 1) := by decide +kernel
theorem dX7_isFewer_2 : decode cX7_isFewer 2 = .ok (.if_icmp .eq 17, 3) := by decide +kernel
theorem dX7_isFewer_5 : decode cX7_isFewer 5 = .ok (.iload_n 1, 1) := by decide +kernel
theorem dX7_isFewer_6 : decode cX7_isFewer 6 = .ok (.iconst (-1), 1) := by decide +kernel
theorem dX7_isFewer_7 : decode cX7_isFewer 7 = .ok (.if_icmp .eq 8, 3) := by decide +kernel
theorem dX7_isFewer_10 : decode cX7_isFewer 10 = .ok (.iload_n 0, 1) := by decide +kernel
theorem dX7_isFewer_11 : decode cX7_isFewer 11 = .ok (.iload_n 1, 1) := by decide +kernel
theorem dX7_isFewer_12 : decode cX7_isFewer 12 = .ok (.if_icmp .ge 7, 3) := by decide +kernel
theorem dX7_isFewer_15 : decode cX7_isFewer 15 = .ok (.iconst 1, 1) := by decide +kernel
theorem dX7_isFewer_16 : decode cX7_isFewer 16 = .ok (.goto 4, 3) := by decide +kernel
theorem dX7_isFewer_19 : decode cX7_isFewer 19 = .ok (.iconst 0, 1) := by decide +kernel
theorem dX7_isFewer_20 : decode cX7_isFewer 20 = .ok (.ireturn, 1) := by decide +kernel
theorem dX7_isWithin_0 : decode cX7_isWithin 0 = .ok (.iload_n 0, 1) := by decide +kernel
theorem dX7_isWithin_1 : decode cX7_isWithin 1 = .ok (.iload_n 1, 1) := by decide +kernel
theorem dX7_isWithin_2 : decode cX7_isWithin 2 = .ok (.if_icmp .lt 12, 3) := by decide +kernel
theorem dX7_isWithin_5 : decode cX7_isWithin 5 = .ok (.iload_n 0, 1) := by decide +kernel
theorem dX7_isWithin_6 : decode cX7_isWithin 6 = .ok (.iload_n 2, 1) := by decide +kernel
theorem dX7_isWithin_7 : decode cX7_isWithin 7 = .ok (.if_icmp .gt 7, 3) := by decide +kernel
theorem dX7_isWithin_10 : decode cX7_isWithin 10 = .ok (.iconst 1, 1) := by decide +kernel
theorem dX7_isWithin_11 : decode cX7_isWithin 11 = .ok (.goto 4, 3) := by decide +kernel
theorem dX7_isWithin_14 : decode cX7_isWithin 14 = .ok (.iconst 0, 1) := by decide +kernel
theorem dX7_isWithin_15 : decode cX7_isWithin 15 = .ok (.ireturn, 1) := by decide +kernel
theorem dX7_isRoom_0 : decode cX7_isRoom 0 = .ok (.iload_n 0, 1) := by decide +kernel
theorem dX7_isRoom_1 : decode cX7_isRoom 1 = .ok (.iconst 0, 1) := by decide +kernel
theorem dX7_isRoom_2 : decode cX7_isRoom 2 = .ok (.bipush 7, 2) := by decide +kernel
theorem dX7_isRoom_4 : decode cX7_isRoom 4 = .ok (.invokestatic 51, 3) := by decide +kernel
theorem dX7_isRoom_7 : decode cX7_isRoom 7 = .ok (.ireturn, 1) := by decide +kernel
theorem dX7_isPlace_0 : decode cX7_isPlace 0 = .ok (.iload_n 0, 1) := by decide +kernel
theorem dX7_isPlace_1 : decode cX7_isPlace 1 = .ok (.iconst 0, 1) := by decide +kernel
theorem dX7_isPlace_2 : decode cX7_isPlace 2 = .ok (.bipush 39, 2) := by decide +kernel
theorem dX7_isPlace_4 : decode cX7_isPlace 4 = .ok (.invokestatic 51, 3) := by decide +kernel
theorem dX7_isPlace_7 : decode cX7_isPlace 7 = .ok (.ireturn, 1) := by decide +kernel
theorem dX7_isKind_0 : decode cX7_isKind 0 = .ok (.iload_n 0, 1) := by decide +kernel
theorem dX7_isKind_1 : decode cX7_isKind 1 = .ok (.iconst 0, 1) := by decide +kernel
theorem dX7_isKind_2 : decode cX7_isKind 2 = .ok (.bipush 6, 2) := by decide +kernel
theorem dX7_isKind_4 : decode cX7_isKind 4 = .ok (.invokestatic 51, 3) := by decide +kernel
theorem dX7_isKind_7 : decode cX7_isKind 7 = .ok (.ireturn, 1) := by decide +kernel
theorem dX7_isSheet_0 : decode cX7_isSheet 0 = .ok (.iload_n 0, 1) := by decide +kernel
theorem dX7_isSheet_1 : decode cX7_isSheet 1 = .ok (.iconst 0, 1) := by decide +kernel
theorem dX7_isSheet_2 : decode cX7_isSheet 2 = .ok (.iconst 3, 1) := by decide +kernel
theorem dX7_isSheet_3 : decode cX7_isSheet 3 = .ok (.invokestatic 51, 3) := by decide +kernel
theorem dX7_isSheet_6 : decode cX7_isSheet 6 = .ok (.ireturn, 1) := by decide +kernel
theorem dX7_isThing_0 : decode cX7_isThing 0 = .ok (.iload_n 1, 1) := by decide +kernel
theorem dX7_isThing_1 : decode cX7_isThing 1 = .ok (.iconst 0, 1) := by decide +kernel
theorem dX7_isThing_2 : decode cX7_isThing 2 = .ok (.aload_n 0, 1) := by decide +kernel
theorem dX7_isThing_3 : decode cX7_isThing 3 = .ok (.getfield 12, 3) := by decide +kernel
theorem dX7_isThing_6 : decode cX7_isThing 6 = .ok (.getfield 75, 3) := by decide +kernel
theorem dX7_isThing_9 : decode cX7_isThing 9 = .ok (.iconst 1, 1) := by decide +kernel
theorem dX7_isThing_10 : decode cX7_isThing 10 = .ok (.isub, 1) := by decide +kernel
theorem dX7_isThing_11 : decode cX7_isThing 11 = .ok (.invokestatic 51, 3) := by decide +kernel
theorem dX7_isThing_14 : decode cX7_isThing 14 = .ok (.ireturn, 1) := by decide +kernel
theorem dX7_isOne_0 : decode cX7_isOne 0 = .ok (.iload_n 1, 1) := by decide +kernel
theorem dX7_isOne_1 : decode cX7_isOne 1 = .ok (.iconst 0, 1) := by decide +kernel
theorem dX7_isOne_2 : decode cX7_isOne 2 = .ok (.aload_n 0, 1) := by decide +kernel
theorem dX7_isOne_3 : decode cX7_isOne 3 = .ok (.getfield 12, 3) := by decide +kernel
theorem dX7_isOne_6 : decode cX7_isOne 6 = .ok (.getfield 103, 3) := by decide +kernel
theorem dX7_isOne_9 : decode cX7_isOne 9 = .ok (.iconst 1, 1) := by decide +kernel
theorem dX7_isOne_10 : decode cX7_isOne 10 = .ok (.isub, 1) := by decide +kernel
theorem dX7_isOne_11 : decode cX7_isOne 11 = .ok (.invokestatic 51, 3) := by decide +kernel
theorem dX7_isOne_14 : decode cX7_isOne 14 = .ok (.ireturn, 1) := by decide +kernel
theorem dX7_isTask_0 : decode cX7_isTask 0 = .ok (.aload_n 0, 1) := by decide +kernel
theorem dX7_isTask_1 : decode cX7_isTask 1 = .ok (.iload_n 1, 1) := by decide +kernel
theorem dX7_isTask_2 : decode cX7_isTask 2 = .ok (.invokevirtual 109, 3) := by decide +kernel
theorem dX7_isTask_5 : decode cX7_isTask 5 = .ok (.ifCond .eq 22, 3) := by decide +kernel
theorem dX7_isTask_8 : decode cX7_isTask 8 = .ok (.aload_n 0, 1) := by decide +kernel
theorem dX7_isTask_9 : decode cX7_isTask 9 = .ok (.iload_n 2, 1) := by decide +kernel
theorem dX7_isTask_10 : decode cX7_isTask 10 = .ok (.invokevirtual 84, 3) := by decide +kernel
theorem dX7_isTask_13 : decode cX7_isTask 13 = .ok (.ifCond .eq 14, 3) := by decide +kernel
theorem dX7_isTask_16 : decode cX7_isTask 16 = .ok (.iload_n 3, 1) := by decide +kernel
theorem dX7_isTask_17 : decode cX7_isTask 17 = .ok (.invokestatic 47, 3) := by decide +kernel
theorem dX7_isTask_20 : decode cX7_isTask 20 = .ok (.ifCond .eq 7, 3) := by decide +kernel
theorem dX7_isTask_23 : decode cX7_isTask 23 = .ok (.iconst 1, 1) := by decide +kernel
theorem dX7_isTask_24 : decode cX7_isTask 24 = .ok (.goto 4, 3) := by decide +kernel
theorem dX7_isTask_27 : decode cX7_isTask 27 = .ok (.iconst 0, 1) := by decide +kernel
theorem dX7_isTask_28 : decode cX7_isTask 28 = .ok (.ireturn, 1) := by decide +kernel
theorem dX7_isRoomAndThing_0 : decode cX7_isRoomAndThing 0 = .ok (.iload_n 1, 1) := by decide +kernel
theorem dX7_isRoomAndThing_1 : decode cX7_isRoomAndThing 1 = .ok (.ifCond .lt 28, 3) := by decide +kernel
theorem dX7_isRoomAndThing_4 : decode cX7_isRoomAndThing 4 = .ok (.iload_n 1, 1) := by decide +kernel
theorem dX7_isRoomAndThing_5 : decode cX7_isRoomAndThing 5 = .ok (.bipush 10, 2) := by decide +kernel
theorem dX7_isRoomAndThing_7 : decode cX7_isRoomAndThing 7 = .ok (.idiv, 1) := by decide +kernel
theorem dX7_isRoomAndThing_8 : decode cX7_isRoomAndThing 8 = .ok (.invokestatic 47, 3) := by decide +kernel
theorem dX7_isRoomAndThing_11 : decode cX7_isRoomAndThing 11 = .ok (.ifCond .eq 18, 3) := by decide +kernel
theorem dX7_isRoomAndThing_14 : decode cX7_isRoomAndThing 14 = .ok (.aload_n 0, 1) := by decide +kernel
theorem dX7_isRoomAndThing_15 : decode cX7_isRoomAndThing 15 = .ok (.iload_n 1, 1) := by decide +kernel
theorem dX7_isRoomAndThing_16 : decode cX7_isRoomAndThing 16 = .ok (.bipush 10, 2) := by decide +kernel
theorem dX7_isRoomAndThing_18 : decode cX7_isRoomAndThing 18 = .ok (.irem, 1) := by decide +kernel
theorem dX7_isRoomAndThing_19 : decode cX7_isRoomAndThing 19 = .ok (.invokevirtual 84, 3) := by decide +kernel
theorem dX7_isRoomAndThing_22 : decode cX7_isRoomAndThing 22 = .ok (.ifCond .eq 7, 3) := by decide +kernel
theorem dX7_isRoomAndThing_25 : decode cX7_isRoomAndThing 25 = .ok (.iconst 1, 1) := by decide +kernel
theorem dX7_isRoomAndThing_26 : decode cX7_isRoomAndThing 26 = .ok (.goto 4, 3) := by decide +kernel
theorem dX7_isRoomAndThing_29 : decode cX7_isRoomAndThing 29 = .ok (.iconst 0, 1) := by decide +kernel
theorem dX7_isRoomAndThing_30 : decode cX7_isRoomAndThing 30 = .ok (.ireturn, 1) := by decide +kernel
theorem dX7_canBePart_0 : decode cX7_canBePart 0 = .ok (.iload_n 0, 1) := by decide +kernel
theorem dX7_canBePart_1 : decode cX7_canBePart 1 = .ok (.lookupswitch 37 #[(0, 27), (1, 32)], 27) := by decide +kernel
theorem dX7_canBePart_28 : decode cX7_canBePart 28 = .ok (.iload_n 1, 1) := by decide +kernel
theorem dX7_canBePart_29 : decode cX7_canBePart 29 = .ok (.invokestatic 72, 3) := by decide +kernel
theorem dX7_canBePart_32 : decode cX7_canBePart 32 = .ok (.ireturn, 1) := by decide +kernel
theorem dX7_canBePart_33 : decode cX7_canBePart 33 = .ok (.iload_n 1, 1) := by decide +kernel
theorem dX7_canBePart_34 : decode cX7_canBePart 34 = .ok (.invokestatic 47, 3) := by decide +kernel
theorem dX7_canBePart_37 : decode cX7_canBePart 37 = .ok (.ireturn, 1) := by decide +kernel
theorem dX7_canBePart_38 : decode cX7_canBePart 38 = .ok (.iload_n 1, 1) := by decide +kernel
theorem dX7_canBePart_39 : decode cX7_canBePart 39 = .ok (.iconst 1, 1) := by decide +kernel
theorem dX7_canBePart_40 : decode cX7_canBePart 40 = .ok (.bipush 60, 2) := by decide +kernel
theorem dX7_canBePart_42 : decode cX7_canBePart 42 = .ok (.invokestatic 51, 3) := by decide +kernel
theorem dX7_canBePart_45 : decode cX7_canBePart 45 = .ok (.ireturn, 1) := by decide +kernel
theorem dX7_goTo_0 : decode cX7_goTo 0 = .ok (.iload_n 2, 1) := by decide +kernel
theorem dX7_goTo_1 : decode cX7_goTo 1 = .ok (.iconst (-1), 1) := by decide +kernel
theorem dX7_goTo_2 : decode cX7_goTo 2 = .ok (.if_icmp .ne 10, 3) := by decide +kernel
theorem dX7_goTo_5 : decode cX7_goTo 5 = .ok (.aload_n 0, 1) := by decide +kernel
theorem dX7_goTo_6 : decode cX7_goTo 6 = .ok (.ldc 124, 2) := by decide +kernel
theorem dX7_goTo_8 : decode cX7_goTo 8 = .ok (.invokevirtual 56, 3) := by decide +kernel
theorem dX7_goTo_11 : decode cX7_goTo 11 = .ok (.ireturn, 1) := by decide +kernel
theorem dX7_goTo_12 : decode cX7_goTo 12 = .ok (.aload_n 0, 1) := by decide +kernel
theorem dX7_goTo_13 : decode cX7_goTo 13 = .ok (.getfield 12, 3) := by decide +kernel
theorem dX7_goTo_16 : decode cX7_goTo 16 = .ok (.getfield 129, 3) := by decide +kernel
theorem dX7_goTo_19 : decode cX7_goTo 19 = .ok (.iload_n 1, 1) := by decide +kernel
theorem dX7_goTo_20 : decode cX7_goTo 20 = .ok (.iload_n 2, 1) := by decide +kernel
theorem dX7_goTo_21 : decode cX7_goTo 21 = .ok (.iastore, 1) := by decide +kernel
theorem dX7_goTo_22 : decode cX7_goTo 22 = .ok (.iload_n 2, 1) := by decide +kernel
theorem dX7_goTo_23 : decode cX7_goTo 23 = .ok (.ireturn, 1) := by decide +kernel
theorem dX7_stepsWithDoor_0 : decode cX7_stepsWithDoor 0 = .ok (.aload_n 0, 1) := by decide +kernel
theorem dX7_stepsWithDoor_1 : decode cX7_stepsWithDoor 1 = .ok (.getfield 19, 3) := by decide +kernel
theorem dX7_stepsWithDoor_4 : decode cX7_stepsWithDoor 4 = .ok (.iload_n 1, 1) := by decide +kernel
theorem dX7_stepsWithDoor_5 : decode cX7_stepsWithDoor 5 = .ok (.iload_n 2, 1) := by decide +kernel
theorem dX7_stepsWithDoor_6 : decode cX7_stepsWithDoor 6 = .ok (.iconst 1, 1) := by decide +kernel
theorem dX7_stepsWithDoor_7 : decode cX7_stepsWithDoor 7 = .ok (.invokevirtual 64, 3) := by decide +kernel
theorem dX7_stepsWithDoor_10 : decode cX7_stepsWithDoor 10 = .ok (.aload_n 0, 1) := by decide +kernel
theorem dX7_stepsWithDoor_11 : decode cX7_stepsWithDoor 11 = .ok (.getfield 25, 3) := by decide +kernel
theorem dX7_stepsWithDoor_14 : decode cX7_stepsWithDoor 14 = .ok (.aload_n 0, 1) := by decide +kernel
theorem dX7_stepsWithDoor_15 : decode cX7_stepsWithDoor 15 = .ok (.getfield 19, 3) := by decide +kernel
theorem dX7_stepsWithDoor_18 : decode cX7_stepsWithDoor 18 = .ok (.iload_n 3, 1) := by decide +kernel
theorem dX7_stepsWithDoor_19 : decode cX7_stepsWithDoor 19 = .ok (.iload 4, 2) := by decide +kernel
theorem dX7_stepsWithDoor_21 : decode cX7_stepsWithDoor 21 = .ok (.iload 5, 2) := by decide +kernel
theorem dX7_stepsWithDoor_23 : decode cX7_stepsWithDoor 23 = .ok (.invokevirtual 198, 3) := by decide +kernel
theorem dX7_stepsWithDoor_26 : decode cX7_stepsWithDoor 26 = .ok (.istore 6, 2) := by decide +kernel
theorem dX7_stepsWithDoor_28 : decode cX7_stepsWithDoor 28 = .ok (.aload_n 0, 1) := by decide +kernel
theorem dX7_stepsWithDoor_29 : decode cX7_stepsWithDoor 29 = .ok (.getfield 19, 3) := by decide +kernel
theorem dX7_stepsWithDoor_32 : decode cX7_stepsWithDoor 32 = .ok (.iload_n 1, 1) := by decide +kernel
theorem dX7_stepsWithDoor_33 : decode cX7_stepsWithDoor 33 = .ok (.iload_n 2, 1) := by decide +kernel
theorem dX7_stepsWithDoor_34 : decode cX7_stepsWithDoor 34 = .ok (.iconst 0, 1) := by decide +kernel
theorem dX7_stepsWithDoor_35 : decode cX7_stepsWithDoor 35 = .ok (.invokevirtual 64, 3) := by decide +kernel
theorem dX7_stepsWithDoor_38 : decode cX7_stepsWithDoor 38 = .ok (.iload 6, 2) := by decide +kernel
theorem dX7_stepsWithDoor_40 : decode cX7_stepsWithDoor 40 = .ok (.ireturn, 1) := by decide +kernel
theorem dX7_makeSo_0 : decode cX7_makeSo 0 = .ok (.aload_n 0, 1) := by decide +kernel
theorem dX7_makeSo_1 : decode cX7_makeSo 1 = .ok (.getfield 32, 3) := by decide +kernel
theorem dX7_makeSo_4 : decode cX7_makeSo 4 = .ok (.getfield 319, 3) := by decide +kernel
theorem dX7_makeSo_7 : decode cX7_makeSo 7 = .ok (.iload_n 1, 1) := by decide +kernel
theorem dX7_makeSo_8 : decode cX7_makeSo 8 = .ok (.iconst 1, 1) := by decide +kernel
theorem dX7_makeSo_9 : decode cX7_makeSo 9 = .ok (.iadd, 1) := by decide +kernel
theorem dX7_makeSo_10 : decode cX7_makeSo 10 = .ok (.iaload, 1) := by decide +kernel
theorem dX7_makeSo_11 : decode cX7_makeSo 11 = .ok (.istore_n 2, 1) := by decide +kernel
theorem dX7_makeSo_12 : decode cX7_makeSo 12 = .ok (.aload_n 0, 1) := by decide +kernel
theorem dX7_makeSo_13 : decode cX7_makeSo 13 = .ok (.getfield 32, 3) := by decide +kernel
theorem dX7_makeSo_16 : decode cX7_makeSo 16 = .ok (.getfield 319, 3) := by decide +kernel
theorem dX7_makeSo_19 : decode cX7_makeSo 19 = .ok (.iload_n 1, 1) := by decide +kernel
theorem dX7_makeSo_20 : decode cX7_makeSo 20 = .ok (.iconst 2, 1) := by decide +kernel
theorem dX7_makeSo_21 : decode cX7_makeSo 21 = .ok (.iadd, 1) := by decide +kernel
theorem dX7_makeSo_22 : decode cX7_makeSo 22 = .ok (.iaload, 1) := by decide +kernel
theorem dX7_makeSo_23 : decode cX7_makeSo 23 = .ok (.istore_n 3, 1) := by decide +kernel
theorem dX7_makeSo_24 : decode cX7_makeSo 24 = .ok (.aload_n 0, 1) := by decide +kernel
theorem dX7_makeSo_25 : decode cX7_makeSo 25 = .ok (.getfield 32, 3) := by decide +kernel
theorem dX7_makeSo_28 : decode cX7_makeSo 28 = .ok (.getfield 319, 3) := by decide +kernel
theorem dX7_makeSo_31 : decode cX7_makeSo 31 = .ok (.iload_n 1, 1) := by decide +kernel
theorem dX7_makeSo_32 : decode cX7_makeSo 32 = .ok (.iconst 3, 1) := by decide +kernel
theorem dX7_makeSo_33 : decode cX7_makeSo 33 = .ok (.iadd, 1) := by decide +kernel
theorem dX7_makeSo_34 : decode cX7_makeSo 34 = .ok (.iaload, 1) := by decide +kernel
theorem dX7_makeSo_35 : decode cX7_makeSo 35 = .ok (.istore 4, 2) := by decide +kernel
theorem dX7_makeSo_37 : decode cX7_makeSo 37 = .ok (.aload_n 0, 1) := by decide +kernel
theorem dX7_makeSo_38 : decode cX7_makeSo 38 = .ok (.getfield 32, 3) := by decide +kernel
theorem dX7_makeSo_41 : decode cX7_makeSo 41 = .ok (.getfield 319, 3) := by decide +kernel
theorem dX7_makeSo_44 : decode cX7_makeSo 44 = .ok (.iload_n 1, 1) := by decide +kernel
theorem dX7_makeSo_45 : decode cX7_makeSo 45 = .ok (.iaload, 1) := by decide +kernel
theorem dX7_makeSo_46 : decode cX7_makeSo 46 = .ok (.tableswitch 77 0 2 #[26, 41, 54], 26) := by decide +kernel
theorem dX7_makeSo_72 : decode cX7_makeSo 72 = .ok (.aload_n 0, 1) := by decide +kernel
theorem dX7_makeSo_73 : decode cX7_makeSo 73 = .ok (.getfield 12, 3) := by decide +kernel
theorem dX7_makeSo_76 : decode cX7_makeSo 76 = .ok (.iload_n 2, 1) := by decide +kernel
theorem dX7_makeSo_77 : decode cX7_makeSo 77 = .ok (.iload_n 3, 1) := by decide +kernel
theorem dX7_makeSo_78 : decode cX7_makeSo 78 = .ok (.iload 4, 2) := by decide +kernel
theorem dX7_makeSo_80 : decode cX7_makeSo 80 = .ok (.invokevirtual 80, 3) := by decide +kernel
theorem dX7_makeSo_83 : decode cX7_makeSo 83 = .ok (.pop, 1) := by decide +kernel
theorem dX7_makeSo_84 : decode cX7_makeSo 84 = .ok (.goto 49, 3) := by decide +kernel
theorem dX7_makeSo_87 : decode cX7_makeSo 87 = .ok (.aload_n 0, 1) := by decide +kernel
theorem dX7_makeSo_88 : decode cX7_makeSo 88 = .ok (.getfield 12, 3) := by decide +kernel
theorem dX7_makeSo_91 : decode cX7_makeSo 91 = .ok (.iload_n 2, 1) := by decide +kernel
theorem dX7_makeSo_92 : decode cX7_makeSo 92 = .ok (.iload_n 3, 1) := by decide +kernel
theorem dX7_makeSo_93 : decode cX7_makeSo 93 = .ok (.invokevirtual 106, 3) := by decide +kernel
theorem dX7_makeSo_96 : decode cX7_makeSo 96 = .ok (.pop, 1) := by decide +kernel
theorem dX7_makeSo_97 : decode cX7_makeSo 97 = .ok (.goto 36, 3) := by decide +kernel
theorem dX7_makeSo_100 : decode cX7_makeSo 100 = .ok (.aload_n 0, 1) := by decide +kernel
theorem dX7_makeSo_101 : decode cX7_makeSo 101 = .ok (.getfield 12, 3) := by decide +kernel
theorem dX7_makeSo_104 : decode cX7_makeSo 104 = .ok (.iload_n 2, 1) := by decide +kernel
theorem dX7_makeSo_105 : decode cX7_makeSo 105 = .ok (.iload_n 3, 1) := by decide +kernel
theorem dX7_makeSo_106 : decode cX7_makeSo 106 = .ok (.iload 4, 2) := by decide +kernel
theorem dX7_makeSo_108 : decode cX7_makeSo 108 = .ok (.iconst 1, 1) := by decide +kernel
theorem dX7_makeSo_109 : decode cX7_makeSo 109 = .ok (.if_icmp .ne 7, 3) := by decide +kernel
theorem dX7_makeSo_112 : decode cX7_makeSo 112 = .ok (.iconst 1, 1) := by decide +kernel
theorem dX7_makeSo_113 : decode cX7_makeSo 113 = .ok (.goto 4, 3) := by decide +kernel
theorem dX7_makeSo_116 : decode cX7_makeSo 116 = .ok (.iconst 0, 1) := by decide +kernel
theorem dX7_makeSo_117 : decode cX7_makeSo 117 = .ok (.invokevirtual 64, 3) := by decide +kernel
theorem dX7_makeSo_120 : decode cX7_makeSo 120 = .ok (.goto 13, 3) := by decide +kernel
theorem dX7_makeSo_123 : decode cX7_makeSo 123 = .ok (.aload_n 0, 1) := by decide +kernel
theorem dX7_makeSo_124 : decode cX7_makeSo 124 = .ok (.getfield 12, 3) := by decide +kernel
theorem dX7_makeSo_127 : decode cX7_makeSo 127 = .ok (.iload_n 2, 1) := by decide +kernel
theorem dX7_makeSo_128 : decode cX7_makeSo 128 = .ok (.iload_n 3, 1) := by decide +kernel
theorem dX7_makeSo_129 : decode cX7_makeSo 129 = .ok (.invokevirtual 68, 3) := by decide +kernel
theorem dX7_makeSo_132 : decode cX7_makeSo 132 = .ok (.pop, 1) := by decide +kernel
theorem dX7_makeSo_133 : decode cX7_makeSo 133 = .ok (.return_, 1) := by decide +kernel
theorem dX8_init_0 : decode cX8_init 0 = .ok (.aload_n 0, 1) := by decide +kernel
theorem dX8_init_1 : decode cX8_init 1 = .ok (.invokespecial 3, 3) := by decide +kernel
theorem dX8_init_4 : decode cX8_init 4 = .ok (.aload_n 0, 1) := by decide +kernel
theorem dX8_init_5 : decode cX8_init 5 = .ok (.bipush 120, 2) := by decide +kernel
theorem dX8_init_7 : decode cX8_init 7 = .ok (.newarray .int, 2) := by decide +kernel
theorem dX8_init_9 : decode cX8_init 9 = .ok (.putfield 9, 3) := by decide +kernel
theorem dX8_init_12 : decode cX8_init 12 = .ok (.aload_n 0, 1) := by decide +kernel
theorem dX8_init_13 : decode cX8_init 13 = .ok (.bipush 120, 2) := by decide +kernel
theorem dX8_init_15 : decode cX8_init 15 = .ok (.newarray .int, 2) := by decide +kernel
theorem dX8_init_17 : decode cX8_init 17 = .ok (.putfield 13, 3) := by decide +kernel
theorem dX8_init_20 : decode cX8_init 20 = .ok (.aload_n 0, 1) := by decide +kernel
theorem dX8_init_21 : decode cX8_init 21 = .ok (.bipush 120, 2) := by decide +kernel
theorem dX8_init_23 : decode cX8_init 23 = .ok (.newarray .int, 2) := by decide +kernel
theorem dX8_init_25 : decode cX8_init 25 = .ok (.putfield 16, 3) := by decide +kernel
theorem dX8_init_28 : decode cX8_init 28 = .ok (.aload_n 0, 1) := by decide +kernel
theorem dX8_init_29 : decode cX8_init 29 = .ok (.bipush 120, 2) := by decide +kernel
theorem dX8_init_31 : decode cX8_init 31 = .ok (.newarray .int, 2) := by decide +kernel
theorem dX8_init_33 : decode cX8_init 33 = .ok (.putfield 19, 3) := by decide +kernel
theorem dX8_init_36 : decode cX8_init 36 = .ok (.aload_n 0, 1) := by decide +kernel
theorem dX8_init_37 : decode cX8_init 37 = .ok (.bipush 7, 2) := by decide +kernel
theorem dX8_init_39 : decode cX8_init 39 = .ok (.newarray .int, 2) := by decide +kernel
theorem dX8_init_41 : decode cX8_init 41 = .ok (.putfield 22, 3) := by decide +kernel
theorem dX8_init_44 : decode cX8_init 44 = .ok (.aload_n 0, 1) := by decide +kernel
theorem dX8_init_45 : decode cX8_init 45 = .ok (.sipush 320, 3) := by decide +kernel
theorem dX8_init_48 : decode cX8_init 48 = .ok (.newarray .int, 2) := by decide +kernel
theorem dX8_init_50 : decode cX8_init 50 = .ok (.putfield 25, 3) := by decide +kernel
theorem dX8_init_53 : decode cX8_init 53 = .ok (.aload_n 0, 1) := by decide +kernel
theorem dX8_init_54 : decode cX8_init 54 = .ok (.sipush 320, 3) := by decide +kernel
theorem dX8_init_57 : decode cX8_init 57 = .ok (.newarray .int, 2) := by decide +kernel
theorem dX8_init_59 : decode cX8_init 59 = .ok (.putfield 28, 3) := by decide +kernel
theorem dX8_init_62 : decode cX8_init 62 = .ok (.aload_n 0, 1) := by decide +kernel
theorem dX8_init_63 : decode cX8_init 63 = .ok (.iconst 4, 1) := by decide +kernel
theorem dX8_init_64 : decode cX8_init 64 = .ok (.newarray .int, 2) := by decide +kernel
theorem dX8_init_66 : decode cX8_init 66 = .ok (.putfield 31, 3) := by decide +kernel
theorem dX8_init_69 : decode cX8_init 69 = .ok (.aload_n 0, 1) := by decide +kernel
theorem dX8_init_70 : decode cX8_init 70 = .ok (.iconst 4, 1) := by decide +kernel
theorem dX8_init_71 : decode cX8_init 71 = .ok (.newarray .int, 2) := by decide +kernel
theorem dX8_init_73 : decode cX8_init 73 = .ok (.putfield 34, 3) := by decide +kernel
theorem dX8_init_76 : decode cX8_init 76 = .ok (.aload_n 0, 1) := by decide +kernel
theorem dX8_init_77 : decode cX8_init 77 = .ok (.sipush 160, 3) := by decide +kernel
theorem dX8_init_80 : decode cX8_init 80 = .ok (.newarray .int, 2) := by decide +kernel
theorem dX8_init_82 : decode cX8_init 82 = .ok (.putfield 37, 3) := by decide +kernel
theorem dX8_init_85 : decode cX8_init 85 = .ok (.aload_n 0, 1) := by decide +kernel
theorem dX8_init_86 : decode cX8_init 86 = .ok (.bipush 40, 2) := by decide +kernel
theorem dX8_init_88 : decode cX8_init 88 = .ok (.newarray .int, 2) := by decide +kernel
theorem dX8_init_90 : decode cX8_init 90 = .ok (.putfield 40, 3) := by decide +kernel
theorem dX8_init_93 : decode cX8_init 93 = .ok (.iconst 0, 1) := by decide +kernel
theorem dX8_init_94 : decode cX8_init 94 = .ok (.istore_n 1, 1) := by decide +kernel
theorem dX8_init_95 : decode cX8_init 95 = .ok (.iload_n 1, 1) := by decide +kernel
theorem dX8_init_96 : decode cX8_init 96 = .ok (.iconst 1, 1) := by decide +kernel
theorem dX8_init_97 : decode cX8_init 97 = .ok (.iadd, 1) := by decide +kernel
theorem dX8_init_98 : decode cX8_init 98 = .ok (.bipush 8, 2) := by decide +kernel
theorem dX8_init_100 : decode cX8_init 100 = .ok (.if_icmp .ge 18, 3) := by decide +kernel
theorem dX8_init_103 : decode cX8_init 103 = .ok (.aload_n 0, 1) := by decide +kernel
theorem dX8_init_104 : decode cX8_init 104 = .ok (.iload_n 1, 1) := by decide +kernel
theorem dX8_init_105 : decode cX8_init 105 = .ok (.iload_n 1, 1) := by decide +kernel
theorem dX8_init_106 : decode cX8_init 106 = .ok (.iconst 1, 1) := by decide +kernel
theorem dX8_init_107 : decode cX8_init 107 = .ok (.iadd, 1) := by decide +kernel
theorem dX8_init_108 : decode cX8_init 108 = .ok (.iconst 1, 1) := by decide +kernel
theorem dX8_init_109 : decode cX8_init 109 = .ok (.invokevirtual 43, 3) := by decide +kernel
theorem dX8_init_112 : decode cX8_init 112 = .ok (.iinc 1 1, 3) := by decide +kernel
theorem dX8_init_115 : decode cX8_init 115 = .ok (.goto (-20), 3) := by decide +kernel
theorem dX8_init_118 : decode cX8_init 118 = .ok (.aload_n 0, 1) := by decide +kernel
theorem dX8_init_119 : decode cX8_init 119 = .ok (.getfield 9, 3) := by decide +kernel
theorem dX8_init_122 : decode cX8_init 122 = .ok (.bipush 8, 2) := by decide +kernel
theorem dX8_init_124 : decode cX8_init 124 = .ok (.iconst 3, 1) := by decide +kernel
theorem dX8_init_125 : decode cX8_init 125 = .ok (.iastore, 1) := by decide +kernel
theorem dX8_init_126 : decode cX8_init 126 = .ok (.aload_n 0, 1) := by decide +kernel
theorem dX8_init_127 : decode cX8_init 127 = .ok (.getfield 9, 3) := by decide +kernel
theorem dX8_init_130 : decode cX8_init 130 = .ok (.bipush 16, 2) := by decide +kernel
theorem dX8_init_132 : decode cX8_init 132 = .ok (.iconst 1, 1) := by decide +kernel
theorem dX8_init_133 : decode cX8_init 133 = .ok (.iastore, 1) := by decide +kernel
theorem dX8_init_134 : decode cX8_init 134 = .ok (.iconst 0, 1) := by decide +kernel
theorem dX8_init_135 : decode cX8_init 135 = .ok (.istore_n 1, 1) := by decide +kernel
theorem dX8_init_136 : decode cX8_init 136 = .ok (.iload_n 1, 1) := by decide +kernel
theorem dX8_init_137 : decode cX8_init 137 = .ok (.bipush 10, 2) := by decide +kernel
theorem dX8_init_139 : decode cX8_init 139 = .ok (.if_icmp .ge 19, 3) := by decide +kernel
theorem dX8_init_142 : decode cX8_init 142 = .ok (.aload_n 0, 1) := by decide +kernel
theorem dX8_init_143 : decode cX8_init 143 = .ok (.getfield 9, 3) := by decide +kernel
theorem dX8_init_146 : decode cX8_init 146 = .ok (.bipush 18, 2) := by decide +kernel
theorem dX8_init_148 : decode cX8_init 148 = .ok (.iload_n 1, 1) := by decide +kernel
theorem dX8_init_149 : decode cX8_init 149 = .ok (.iadd, 1) := by decide +kernel
theorem dX8_init_150 : decode cX8_init 150 = .ok (.iconst (-1), 1) := by decide +kernel
theorem dX8_init_151 : decode cX8_init 151 = .ok (.iastore, 1) := by decide +kernel
theorem dX8_init_152 : decode cX8_init 152 = .ok (.iinc 1 1, 3) := by decide +kernel
theorem dX8_init_155 : decode cX8_init 155 = .ok (.goto (-19), 3) := by decide +kernel
theorem dX8_init_158 : decode cX8_init 158 = .ok (.return_, 1) := by decide +kernel
theorem dX8_become_0 : decode cX8_become 0 = .ok (.iconst 0, 1) := by decide +kernel
theorem dX8_become_1 : decode cX8_become 1 = .ok (.istore_n 2, 1) := by decide +kernel
theorem dX8_become_2 : decode cX8_become 2 = .ok (.iload_n 2, 1) := by decide +kernel
theorem dX8_become_3 : decode cX8_become 3 = .ok (.bipush 120, 2) := by decide +kernel
theorem dX8_become_5 : decode cX8_become 5 = .ok (.if_icmp .ge 15, 3) := by decide +kernel
theorem dX8_become_8 : decode cX8_become 8 = .ok (.aload_n 1, 1) := by decide +kernel
theorem dX8_become_9 : decode cX8_become 9 = .ok (.iload_n 2, 1) := by decide +kernel
theorem dX8_become_10 : decode cX8_become 10 = .ok (.aload_n 0, 1) := by decide +kernel
theorem dX8_become_11 : decode cX8_become 11 = .ok (.iload_n 2, 1) := by decide +kernel
theorem dX8_become_12 : decode cX8_become 12 = .ok (.iaload, 1) := by decide +kernel
theorem dX8_become_13 : decode cX8_become 13 = .ok (.iastore, 1) := by decide +kernel
theorem dX8_become_14 : decode cX8_become 14 = .ok (.iinc 2 1, 3) := by decide +kernel
theorem dX8_become_17 : decode cX8_become 17 = .ok (.goto (-15), 3) := by decide +kernel
theorem dX8_become_20 : decode cX8_become 20 = .ok (.return_, 1) := by decide +kernel
theorem dX8_lends_0 : decode cX8_lends 0 = .ok (.aload_n 0, 1) := by decide +kernel
theorem dX8_lends_1 : decode cX8_lends 1 = .ok (.getfield 9, 3) := by decide +kernel
theorem dX8_lends_4 : decode cX8_lends 4 = .ok (.aload_n 0, 1) := by decide +kernel
theorem dX8_lends_5 : decode cX8_lends 5 = .ok (.getfield 16, 3) := by decide +kernel
theorem dX8_lends_8 : decode cX8_lends 8 = .ok (.invokestatic 47, 3) := by decide +kernel
theorem dX8_lends_11 : decode cX8_lends 11 = .ok (.return_, 1) := by decide +kernel
theorem dX8_laysBack_0 : decode cX8_laysBack 0 = .ok (.aload_n 0, 1) := by decide +kernel
theorem dX8_laysBack_1 : decode cX8_laysBack 1 = .ok (.getfield 16, 3) := by decide +kernel
theorem dX8_laysBack_4 : decode cX8_laysBack 4 = .ok (.aload_n 0, 1) := by decide +kernel
theorem dX8_laysBack_5 : decode cX8_laysBack 5 = .ok (.getfield 9, 3) := by decide +kernel
theorem dX8_laysBack_8 : decode cX8_laysBack 8 = .ok (.invokestatic 47, 3) := by decide +kernel
theorem dX8_laysBack_11 : decode cX8_laysBack 11 = .ok (.return_, 1) := by decide +kernel
theorem dX8_finding_0 : decode cX8_finding 0 = .ok (.aload_n 0, 1) := by decide +kernel
theorem dX8_finding_1 : decode cX8_finding 1 = .ok (.getfield 22, 3) := by decide +kernel
theorem dX8_finding_4 : decode cX8_finding 4 = .ok (.iload_n 1, 1) := by decide +kernel
theorem dX8_finding_5 : decode cX8_finding 5 = .ok (.dup2, 1) := by decide +kernel
theorem dX8_finding_6 : decode cX8_finding 6 = .ok (.iaload, 1) := by decide +kernel
theorem dX8_finding_7 : decode cX8_finding 7 = .ok (.iconst 1, 1) := by decide +kernel
theorem dX8_finding_8 : decode cX8_finding 8 = .ok (.iadd, 1) := by decide +kernel
theorem dX8_finding_9 : decode cX8_finding 9 = .ok (.iastore, 1) := by decide +kernel
theorem dX8_finding_10 : decode cX8_finding 10 = .ok (.ldc 51, 2) := by decide +kernel
theorem dX8_finding_12 : decode cX8_finding 12 = .ok (.iload_n 1, 1) := by decide +kernel
theorem dX8_finding_13 : decode cX8_finding 13 = .ok (.isub, 1) := by decide +kernel
theorem dX8_finding_14 : decode cX8_finding 14 = .ok (.ireturn, 1) := by decide +kernel
theorem dX8_within_0 : decode cX8_within 0 = .ok (.lload_n 0, 1) := by decide +kernel
theorem dX8_within_1 : decode cX8_within 1 = .ok (.lload_n 2, 1) := by decide +kernel
theorem dX8_within_2 : decode cX8_within 2 = .ok (.lcmp, 1) := by decide +kernel
theorem dX8_within_3 : decode cX8_within 3 = .ok (.ifCond .lt 14, 3) := by decide +kernel
theorem dX8_within_6 : decode cX8_within 6 = .ok (.lload_n 0, 1) := by decide +kernel
theorem dX8_within_7 : decode cX8_within 7 = .ok (.lload 4, 2) := by decide +kernel
theorem dX8_within_9 : decode cX8_within 9 = .ok (.lcmp, 1) := by decide +kernel
theorem dX8_within_10 : decode cX8_within 10 = .ok (.ifCond .gt 7, 3) := by decide +kernel
theorem dX8_within_13 : decode cX8_within 13 = .ok (.iconst 1, 1) := by decide +kernel
theorem dX8_within_14 : decode cX8_within 14 = .ok (.goto 4, 3) := by decide +kernel
theorem dX8_within_17 : decode cX8_within 17 = .ok (.iconst 0, 1) := by decide +kernel
theorem dX8_within_18 : decode cX8_within 18 = .ok (.ireturn, 1) := by decide +kernel
theorem dX8_isRoom_0 : decode cX8_isRoom 0 = .ok (.iload_n 0, 1) := by decide +kernel
theorem dX8_isRoom_1 : decode cX8_isRoom 1 = .ok (.i2l, 1) := by decide +kernel
theorem dX8_isRoom_2 : decode cX8_isRoom 2 = .ok (.lconst 0, 1) := by decide +kernel
theorem dX8_isRoom_3 : decode cX8_isRoom 3 = .ok (.ldc2_w 52, 3) := by decide +kernel
theorem dX8_isRoom_6 : decode cX8_isRoom 6 = .ok (.invokestatic 54, 3) := by decide +kernel
theorem dX8_isRoom_9 : decode cX8_isRoom 9 = .ok (.ireturn, 1) := by decide +kernel
theorem dX8_isThing_0 : decode cX8_isThing 0 = .ok (.iload_n 1, 1) := by decide +kernel
theorem dX8_isThing_1 : decode cX8_isThing 1 = .ok (.i2l, 1) := by decide +kernel
theorem dX8_isThing_2 : decode cX8_isThing 2 = .ok (.lconst 0, 1) := by decide +kernel
theorem dX8_isThing_3 : decode cX8_isThing 3 = .ok (.aload_n 0, 1) := by decide +kernel
theorem dX8_isThing_4 : decode cX8_isThing 4 = .ok (.getfield 9, 3) := by decide +kernel
theorem dX8_isThing_7 : decode cX8_isThing 7 = .ok (.bipush 11, 2) := by decide +kernel
theorem dX8_isThing_9 : decode cX8_isThing 9 = .ok (.iaload, 1) := by decide +kernel
theorem dX8_isThing_10 : decode cX8_isThing 10 = .ok (.iconst 1, 1) := by decide +kernel
theorem dX8_isThing_11 : decode cX8_isThing 11 = .ok (.isub, 1) := by decide +kernel
theorem dX8_isThing_12 : decode cX8_isThing 12 = .ok (.i2l, 1) := by decide +kernel
theorem dX8_isThing_13 : decode cX8_isThing 13 = .ok (.invokestatic 54, 3) := by decide +kernel
theorem dX8_isThing_16 : decode cX8_isThing 16 = .ok (.ireturn, 1) := by decide +kernel
theorem dX8_isOne_0 : decode cX8_isOne 0 = .ok (.iload_n 1, 1) := by decide +kernel
theorem dX8_isOne_1 : decode cX8_isOne 1 = .ok (.i2l, 1) := by decide +kernel
theorem dX8_isOne_2 : decode cX8_isOne 2 = .ok (.lconst 0, 1) := by decide +kernel
theorem dX8_isOne_3 : decode cX8_isOne 3 = .ok (.aload_n 0, 1) := by decide +kernel
theorem dX8_isOne_4 : decode cX8_isOne 4 = .ok (.getfield 9, 3) := by decide +kernel
theorem dX8_isOne_7 : decode cX8_isOne 7 = .ok (.bipush 12, 2) := by decide +kernel
theorem dX8_isOne_9 : decode cX8_isOne 9 = .ok (.iaload, 1) := by decide +kernel
theorem dX8_isOne_10 : decode cX8_isOne 10 = .ok (.iconst 1, 1) := by decide +kernel
theorem dX8_isOne_11 : decode cX8_isOne 11 = .ok (.isub, 1) := by decide +kernel
theorem dX8_isOne_12 : decode cX8_isOne 12 = .ok (.i2l, 1) := by decide +kernel
theorem dX8_isOne_13 : decode cX8_isOne 13 = .ok (.invokestatic 54, 3) := by decide +kernel
theorem dX8_isOne_16 : decode cX8_isOne 16 = .ok (.ireturn, 1) := by decide +kernel
theorem dX8_isKind_0 : decode cX8_isKind 0 = .ok (.iload_n 0, 1) := by decide +kernel
theorem dX8_isKind_1 : decode cX8_isKind 1 = .ok (.i2l, 1) := by decide +kernel
theorem dX8_isKind_2 : decode cX8_isKind 2 = .ok (.lconst 0, 1) := by decide +kernel
theorem dX8_isKind_3 : decode cX8_isKind 3 = .ok (.ldc2_w 58, 3) := by decide +kernel
theorem dX8_isKind_6 : decode cX8_isKind 6 = .ok (.invokestatic 54, 3) := by decide +kernel
theorem dX8_isKind_9 : decode cX8_isKind 9 = .ok (.ireturn, 1) := by decide +kernel
theorem dX8_isPlace_0 : decode cX8_isPlace 0 = .ok (.iload_n 0, 1) := by decide +kernel
theorem dX8_isPlace_1 : decode cX8_isPlace 1 = .ok (.i2l, 1) := by decide +kernel
theorem dX8_isPlace_2 : decode cX8_isPlace 2 = .ok (.lconst 0, 1) := by decide +kernel
theorem dX8_isPlace_3 : decode cX8_isPlace 3 = .ok (.ldc2_w 60, 3) := by decide +kernel
theorem dX8_isPlace_6 : decode cX8_isPlace 6 = .ok (.invokestatic 54, 3) := by decide +kernel
theorem dX8_isPlace_9 : decode cX8_isPlace 9 = .ok (.ireturn, 1) := by decide +kernel
theorem dX8_isOpen_0 : decode cX8_isOpen 0 = .ok (.aload_n 0, 1) := by decide +kernel
theorem dX8_isOpen_1 : decode cX8_isOpen 1 = .ok (.getfield 9, 3) := by decide +kernel
theorem dX8_isOpen_4 : decode cX8_isOpen 4 = .ok (.iconst 0, 1) := by decide +kernel
theorem dX8_isOpen_5 : decode cX8_isOpen 5 = .ok (.iload_n 1, 1) := by decide +kernel
theorem dX8_isOpen_6 : decode cX8_isOpen 6 = .ok (.iadd, 1) := by decide +kernel
theorem dX8_isOpen_7 : decode cX8_isOpen 7 = .ok (.iaload, 1) := by decide +kernel
theorem dX8_isOpen_8 : decode cX8_isOpen 8 = .ok (.iload_n 2, 1) := by decide +kernel
theorem dX8_isOpen_9 : decode cX8_isOpen 9 = .ok (.ishr, 1) := by decide +kernel
theorem dX8_isOpen_10 : decode cX8_isOpen 10 = .ok (.iconst 1, 1) := by decide +kernel
theorem dX8_isOpen_11 : decode cX8_isOpen 11 = .ok (.iand, 1) := by decide +kernel
theorem dX8_isOpen_12 : decode cX8_isOpen 12 = .ok (.iconst 1, 1) := by decide +kernel
theorem dX8_isOpen_13 : decode cX8_isOpen 13 = .ok (.if_icmp .ne 7, 3) := by decide +kernel
theorem dX8_isOpen_16 : decode cX8_isOpen 16 = .ok (.iconst 1, 1) := by decide +kernel
theorem dX8_isOpen_17 : decode cX8_isOpen 17 = .ok (.goto 4, 3) := by decide +kernel
theorem dX8_isOpen_20 : decode cX8_isOpen 20 = .ok (.iconst 0, 1) := by decide +kernel
theorem dX8_isOpen_21 : decode cX8_isOpen 21 = .ok (.ireturn, 1) := by decide +kernel
theorem dX8_opensDoor_0 : decode cX8_opensDoor 0 = .ok (.aload_n 0, 1) := by decide +kernel
theorem dX8_opensDoor_1 : decode cX8_opensDoor 1 = .ok (.getfield 9, 3) := by decide +kernel
theorem dX8_opensDoor_4 : decode cX8_opensDoor 4 = .ok (.iconst 0, 1) := by decide +kernel
theorem dX8_opensDoor_5 : decode cX8_opensDoor 5 = .ok (.iload_n 1, 1) := by decide +kernel
theorem dX8_opensDoor_6 : decode cX8_opensDoor 6 = .ok (.iadd, 1) := by decide +kernel
theorem dX8_opensDoor_7 : decode cX8_opensDoor 7 = .ok (.iload_n 3, 1) := by decide +kernel
theorem dX8_opensDoor_8 : decode cX8_opensDoor 8 = .ok (.ifCond .eq 18, 3) := by decide +kernel
theorem dX8_opensDoor_11 : decode cX8_opensDoor 11 = .ok (.aload_n 0, 1) := by decide +kernel
theorem dX8_opensDoor_12 : decode cX8_opensDoor 12 = .ok (.getfield 9, 3) := by decide +kernel
theorem dX8_opensDoor_15 : decode cX8_opensDoor 15 = .ok (.iconst 0, 1) := by decide +kernel
theorem dX8_opensDoor_16 : decode cX8_opensDoor 16 = .ok (.iload_n 1, 1) := by decide +kernel
theorem dX8_opensDoor_17 : decode cX8_opensDoor 17 = .ok (.iadd, 1) := by decide +kernel
theorem dX8_opensDoor_18 : decode cX8_opensDoor 18 = .ok (.iaload, 1) := by decide +kernel
theorem dX8_opensDoor_19 : decode cX8_opensDoor 19 = .ok (.iconst 1, 1) := by decide +kernel
theorem dX8_opensDoor_20 : decode cX8_opensDoor 20 = .ok (.iload_n 2, 1) := by decide +kernel
theorem dX8_opensDoor_21 : decode cX8_opensDoor 21 = .ok (.ishl, 1) := by decide +kernel
theorem dX8_opensDoor_22 : decode cX8_opensDoor 22 = .ok (.ior, 1) := by decide +kernel
theorem dX8_opensDoor_23 : decode cX8_opensDoor 23 = .ok (.goto 17, 3) := by decide +kernel
theorem dX8_opensDoor_26 : decode cX8_opensDoor 26 = .ok (.aload_n 0, 1) := by decide +kernel
theorem dX8_opensDoor_27 : decode cX8_opensDoor 27 = .ok (.getfield 9, 3) := by decide +kernel
theorem dX8_opensDoor_30 : decode cX8_opensDoor 30 = .ok (.iconst 0, 1) := by decide +kernel
theorem dX8_opensDoor_31 : decode cX8_opensDoor 31 = .ok (.iload_n 1, 1) := by decide +kernel
theorem dX8_opensDoor_32 : decode cX8_opensDoor 32 = .ok (.iadd, 1) := by decide +kernel
theorem dX8_opensDoor_33 : decode cX8_opensDoor 33 = .ok (.iaload, 1) := by decide +kernel
theorem dX8_opensDoor_34 : decode cX8_opensDoor 34 = .ok (.iconst 1, 1) := by decide +kernel
theorem dX8_opensDoor_35 : decode cX8_opensDoor 35 = .ok (.iload_n 2, 1) := by decide +kernel
theorem dX8_opensDoor_36 : decode cX8_opensDoor 36 = .ok (.ishl, 1) := by decide +kernel
theorem dX8_opensDoor_37 : decode cX8_opensDoor 37 = .ok (.iconst (-1), 1) := by decide +kernel
theorem dX8_opensDoor_38 : decode cX8_opensDoor 38 = .ok (.ixor, 1) := by decide +kernel
theorem dX8_opensDoor_39 : decode cX8_opensDoor 39 = .ok (.iand, 1) := by decide +kernel
theorem dX8_opensDoor_40 : decode cX8_opensDoor 40 = .ok (.iastore, 1) := by decide +kernel
theorem dX8_opensDoor_41 : decode cX8_opensDoor 41 = .ok (.aload_n 0, 1) := by decide +kernel
theorem dX8_opensDoor_42 : decode cX8_opensDoor 42 = .ok (.getfield 9, 3) := by decide +kernel
theorem dX8_opensDoor_45 : decode cX8_opensDoor 45 = .ok (.iconst 0, 1) := by decide +kernel
theorem dX8_opensDoor_46 : decode cX8_opensDoor 46 = .ok (.iload_n 2, 1) := by decide +kernel
theorem dX8_opensDoor_47 : decode cX8_opensDoor 47 = .ok (.iadd, 1) := by decide +kernel
theorem dX8_opensDoor_48 : decode cX8_opensDoor 48 = .ok (.iload_n 3, 1) := by decide +kernel
theorem dX8_opensDoor_49 : decode cX8_opensDoor 49 = .ok (.ifCond .eq 18, 3) := by decide +kernel
theorem dX8_opensDoor_52 : decode cX8_opensDoor 52 = .ok (.aload_n 0, 1) := by decide +kernel
theorem dX8_opensDoor_53 : decode cX8_opensDoor 53 = .ok (.getfield 9, 3) := by decide +kernel
theorem dX8_opensDoor_56 : decode cX8_opensDoor 56 = .ok (.iconst 0, 1) := by decide +kernel
theorem dX8_opensDoor_57 : decode cX8_opensDoor 57 = .ok (.iload_n 2, 1) := by decide +kernel
theorem dX8_opensDoor_58 : decode cX8_opensDoor 58 = .ok (.iadd, 1) := by decide +kernel
theorem dX8_opensDoor_59 : decode cX8_opensDoor 59 = .ok (.iaload, 1) := by decide +kernel
theorem dX8_opensDoor_60 : decode cX8_opensDoor 60 = .ok (.iconst 1, 1) := by decide +kernel
theorem dX8_opensDoor_61 : decode cX8_opensDoor 61 = .ok (.iload_n 1, 1) := by decide +kernel
theorem dX8_opensDoor_62 : decode cX8_opensDoor 62 = .ok (.ishl, 1) := by decide +kernel
theorem dX8_opensDoor_63 : decode cX8_opensDoor 63 = .ok (.ior, 1) := by decide +kernel
theorem dX8_opensDoor_64 : decode cX8_opensDoor 64 = .ok (.goto 17, 3) := by decide +kernel
theorem dX8_opensDoor_67 : decode cX8_opensDoor 67 = .ok (.aload_n 0, 1) := by decide +kernel
theorem dX8_opensDoor_68 : decode cX8_opensDoor 68 = .ok (.getfield 9, 3) := by decide +kernel
theorem dX8_opensDoor_71 : decode cX8_opensDoor 71 = .ok (.iconst 0, 1) := by decide +kernel
theorem dX8_opensDoor_72 : decode cX8_opensDoor 72 = .ok (.iload_n 2, 1) := by decide +kernel
theorem dX8_opensDoor_73 : decode cX8_opensDoor 73 = .ok (.iadd, 1) := by decide +kernel
theorem dX8_opensDoor_74 : decode cX8_opensDoor 74 = .ok (.iaload, 1) := by decide +kernel
theorem dX8_opensDoor_75 : decode cX8_opensDoor 75 = .ok (.iconst 1, 1) := by decide +kernel
theorem dX8_opensDoor_76 : decode cX8_opensDoor 76 = .ok (.iload_n 1, 1) := by decide +kernel
theorem dX8_opensDoor_77 : decode cX8_opensDoor 77 = .ok (.ishl, 1) := by decide +kernel
theorem dX8_opensDoor_78 : decode cX8_opensDoor 78 = .ok (.iconst (-1), 1) := by decide +kernel
theorem dX8_opensDoor_79 : decode cX8_opensDoor 79 = .ok (.ixor, 1) := by decide +kernel
theorem dX8_opensDoor_80 : decode cX8_opensDoor 80 = .ok (.iand, 1) := by decide +kernel
theorem dX8_opensDoor_81 : decode cX8_opensDoor 81 = .ok (.iastore, 1) := by decide +kernel
theorem dX8_opensDoor_82 : decode cX8_opensDoor 82 = .ok (.return_, 1) := by decide +kernel
theorem dX8_above_0 : decode cX8_above 0 = .ok (.iload_n 0, 1) := by decide +kernel
theorem dX8_above_1 : decode cX8_above 1 = .ok (.ifCond .ne 7, 3) := by decide +kernel
theorem dX8_above_4 : decode cX8_above 4 = .ok (.iconst (-1), 1) := by decide +kernel
theorem dX8_above_5 : decode cX8_above 5 = .ok (.goto 31, 3) := by decide +kernel
theorem dX8_above_8 : decode cX8_above 8 = .ok (.iload_n 0, 1) := by decide +kernel
theorem dX8_above_9 : decode cX8_above 9 = .ok (.iconst 2, 1) := by decide +kernel
theorem dX8_above_10 : decode cX8_above 10 = .ok (.if_icmp .ne 7, 3) := by decide +kernel
theorem dX8_above_13 : decode cX8_above 13 = .ok (.iconst 1, 1) := by decide +kernel
theorem dX8_above_14 : decode cX8_above 14 = .ok (.goto 22, 3) := by decide +kernel
theorem dX8_above_17 : decode cX8_above 17 = .ok (.iload_n 0, 1) := by decide +kernel
theorem dX8_above_18 : decode cX8_above 18 = .ok (.iconst 3, 1) := by decide +kernel
theorem dX8_above_19 : decode cX8_above 19 = .ok (.if_icmp .ne 7, 3) := by decide +kernel
theorem dX8_above_22 : decode cX8_above 22 = .ok (.iconst 2, 1) := by decide +kernel
theorem dX8_above_23 : decode cX8_above 23 = .ok (.goto 13, 3) := by decide +kernel
theorem dX8_above_26 : decode cX8_above 26 = .ok (.iload_n 0, 1) := by decide +kernel
theorem dX8_above_27 : decode cX8_above 27 = .ok (.iconst 5, 1) := by decide +kernel
theorem dX8_above_28 : decode cX8_above 28 = .ok (.if_icmp .ne 7, 3) := by decide +kernel
theorem dX8_above_31 : decode cX8_above 31 = .ok (.iconst 4, 1) := by decide +kernel
theorem dX8_above_32 : decode cX8_above 32 = .ok (.goto 4, 3) := by decide +kernel
theorem dX8_above_35 : decode cX8_above 35 = .ok (.iconst 0, 1) := by decide +kernel
theorem dX8_above_36 : decode cX8_above 36 = .ok (.ireturn, 1) := by decide +kernel
theorem dX8_isUnder_0 : decode cX8_isUnder 0 = .ok (.iload_n 0, 1) := by decide +kernel
theorem dX8_isUnder_1 : decode cX8_isUnder 1 = .ok (.istore_n 2, 1) := by decide +kernel
theorem dX8_isUnder_2 : decode cX8_isUnder 2 = .ok (.iload_n 2, 1) := by decide +kernel
theorem dX8_isUnder_3 : decode cX8_isUnder 3 = .ok (.ifCond .lt 16, 3) := by decide +kernel
theorem dX8_isUnder_6 : decode cX8_isUnder 6 = .ok (.iload_n 2, 1) := by decide +kernel
theorem dX8_isUnder_7 : decode cX8_isUnder 7 = .ok (.iload_n 1, 1) := by decide +kernel
theorem dX8_isUnder_8 : decode cX8_isUnder 8 = .ok (.if_icmp .eq 11, 3) := by decide +kernel
theorem dX8_isUnder_11 : decode cX8_isUnder 11 = .ok (.iload_n 2, 1) := by decide +kernel
theorem dX8_isUnder_12 : decode cX8_isUnder 12 = .ok (.invokestatic 62, 3) := by decide +kernel
theorem dX8_isUnder_15 : decode cX8_isUnder 15 = .ok (.istore_n 2, 1) := by decide +kernel
theorem dX8_isUnder_16 : decode cX8_isUnder 16 = .ok (.goto (-14), 3) := by decide +kernel
theorem dX8_isUnder_19 : decode cX8_isUnder 19 = .ok (.iload_n 2, 1) := by decide +kernel
theorem dX8_isUnder_20 : decode cX8_isUnder 20 = .ok (.ifCond .lt 7, 3) := by decide +kernel
theorem dX8_isUnder_23 : decode cX8_isUnder 23 = .ok (.iconst 1, 1) := by decide +kernel
theorem dX8_isUnder_24 : decode cX8_isUnder 24 = .ok (.goto 4, 3) := by decide +kernel
theorem dX8_isUnder_27 : decode cX8_isUnder 27 = .ok (.iconst 0, 1) := by decide +kernel
theorem dX8_isUnder_28 : decode cX8_isUnder 28 = .ok (.ireturn, 1) := by decide +kernel
theorem dX8_heft_0 : decode cX8_heft 0 = .ok (.iload_n 1, 1) := by decide +kernel
theorem dX8_heft_1 : decode cX8_heft 1 = .ok (.iload_n 2, 1) := by decide +kernel
theorem dX8_heft_2 : decode cX8_heft 2 = .ok (.ishr, 1) := by decide +kernel
theorem dX8_heft_3 : decode cX8_heft 3 = .ok (.istore_n 3, 1) := by decide +kernel
theorem dX8_heft_4 : decode cX8_heft 4 = .ok (.iload_n 0, 1) := by decide +kernel
theorem dX8_heft_5 : decode cX8_heft 5 = .ok (.tableswitch 62 1 6 #[39, 43, 49, 56, 58, 60], 39) := by decide +kernel
theorem dX8_heft_44 : decode cX8_heft 44 = .ok (.iload_n 3, 1) := by decide +kernel
theorem dX8_heft_45 : decode cX8_heft 45 = .ok (.iconst 1, 1) := by decide +kernel
theorem dX8_heft_46 : decode cX8_heft 46 = .ok (.iadd, 1) := by decide +kernel
theorem dX8_heft_47 : decode cX8_heft 47 = .ok (.ireturn, 1) := by decide +kernel
theorem dX8_heft_48 : decode cX8_heft 48 = .ok (.iconst 2, 1) := by decide +kernel
theorem dX8_heft_49 : decode cX8_heft 49 = .ok (.iload_n 3, 1) := by decide +kernel
theorem dX8_heft_50 : decode cX8_heft 50 = .ok (.imul, 1) := by decide +kernel
theorem dX8_heft_51 : decode cX8_heft 51 = .ok (.iconst 2, 1) := by decide +kernel
theorem dX8_heft_52 : decode cX8_heft 52 = .ok (.iadd, 1) := by decide +kernel
theorem dX8_heft_53 : decode cX8_heft 53 = .ok (.ireturn, 1) := by decide +kernel
theorem dX8_heft_54 : decode cX8_heft 54 = .ok (.iconst 2, 1) := by decide +kernel
theorem dX8_heft_55 : decode cX8_heft 55 = .ok (.iload_n 3, 1) := by decide +kernel
theorem dX8_heft_56 : decode cX8_heft 56 = .ok (.imul, 1) := by decide +kernel
theorem dX8_heft_57 : decode cX8_heft 57 = .ok (.bipush 7, 2) := by decide +kernel
theorem dX8_heft_59 : decode cX8_heft 59 = .ok (.iadd, 1) := by decide +kernel
theorem dX8_heft_60 : decode cX8_heft 60 = .ok (.ireturn, 1) := by decide +kernel
theorem dX8_heft_61 : decode cX8_heft 61 = .ok (.iconst 1, 1) := by decide +kernel
theorem dX8_heft_62 : decode cX8_heft 62 = .ok (.ireturn, 1) := by decide +kernel
theorem dX8_heft_63 : decode cX8_heft 63 = .ok (.iconst 0, 1) := by decide +kernel
theorem dX8_heft_64 : decode cX8_heft 64 = .ok (.ireturn, 1) := by decide +kernel
theorem dX8_heft_65 : decode cX8_heft 65 = .ok (.iload_n 1, 1) := by decide +kernel
theorem dX8_heft_66 : decode cX8_heft 66 = .ok (.ireturn, 1) := by decide +kernel
theorem dX8_heft_67 : decode cX8_heft 67 = .ok (.iload_n 3, 1) := by decide +kernel
theorem dX8_heft_68 : decode cX8_heft 68 = .ok (.ireturn, 1) := by decide +kernel
theorem dX8_weighs_0 : decode cX8_weighs 0 = .ok (.aload_n 0, 1) := by decide +kernel
theorem dX8_weighs_1 : decode cX8_weighs 1 = .ok (.getfield 9, 3) := by decide +kernel
theorem dX8_weighs_4 : decode cX8_weighs 4 = .ok (.bipush 28, 2) := by decide +kernel
theorem dX8_weighs_6 : decode cX8_weighs 6 = .ok (.iload_n 1, 1) := by decide +kernel
theorem dX8_weighs_7 : decode cX8_weighs 7 = .ok (.iadd, 1) := by decide +kernel
theorem dX8_weighs_8 : decode cX8_weighs 8 = .ok (.iaload, 1) := by decide +kernel
theorem dX8_weighs_9 : decode cX8_weighs 9 = .ok (.aload_n 0, 1) := by decide +kernel
theorem dX8_weighs_10 : decode cX8_weighs 10 = .ok (.getfield 9, 3) := by decide +kernel
theorem dX8_weighs_13 : decode cX8_weighs 13 = .ok (.bipush 44, 2) := by decide +kernel
theorem dX8_weighs_15 : decode cX8_weighs 15 = .ok (.iload_n 1, 1) := by decide +kernel
theorem dX8_weighs_16 : decode cX8_weighs 16 = .ok (.iadd, 1) := by decide +kernel
theorem dX8_weighs_17 : decode cX8_weighs 17 = .ok (.iaload, 1) := by decide +kernel
theorem dX8_weighs_18 : decode cX8_weighs 18 = .ok (.iload_n 2, 1) := by decide +kernel
theorem dX8_weighs_19 : decode cX8_weighs 19 = .ok (.invokestatic 66, 3) := by decide +kernel
theorem dX8_weighs_22 : decode cX8_weighs 22 = .ok (.ireturn, 1) := by decide +kernel
theorem dX8_roomOf_0 : decode cX8_roomOf 0 = .ok (.aload_n 0, 1) := by decide +kernel
theorem dX8_roomOf_1 : decode cX8_roomOf 1 = .ok (.getfield 9, 3) := by decide +kernel
theorem dX8_roomOf_4 : decode cX8_roomOf 4 = .ok (.bipush 52, 2) := by decide +kernel
theorem dX8_roomOf_6 : decode cX8_roomOf 6 = .ok (.iload_n 1, 1) := by decide +kernel
theorem dX8_roomOf_7 : decode cX8_roomOf 7 = .ok (.iadd, 1) := by decide +kernel
theorem dX8_roomOf_8 : decode cX8_roomOf 8 = .ok (.iaload, 1) := by decide +kernel
theorem dX8_roomOf_9 : decode cX8_roomOf 9 = .ok (.bipush 8, 2) := by decide +kernel
theorem dX8_roomOf_11 : decode cX8_roomOf 11 = .ok (.irem, 1) := by decide +kernel
theorem dX8_roomOf_12 : decode cX8_roomOf 12 = .ok (.ireturn, 1) := by decide +kernel
theorem dX8_levelOf_0 : decode cX8_levelOf 0 = .ok (.aload_n 0, 1) := by decide +kernel
theorem dX8_levelOf_1 : decode cX8_levelOf 1 = .ok (.getfield 9, 3) := by decide +kernel
theorem dX8_levelOf_4 : decode cX8_levelOf 4 = .ok (.bipush 52, 2) := by decide +kernel
theorem dX8_levelOf_6 : decode cX8_levelOf 6 = .ok (.iload_n 1, 1) := by decide +kernel
theorem dX8_levelOf_7 : decode cX8_levelOf 7 = .ok (.iadd, 1) := by decide +kernel
theorem dX8_levelOf_8 : decode cX8_levelOf 8 = .ok (.iaload, 1) := by decide +kernel
theorem dX8_levelOf_9 : decode cX8_levelOf 9 = .ok (.bipush 8, 2) := by decide +kernel
theorem dX8_levelOf_11 : decode cX8_levelOf 11 = .ok (.idiv, 1) := by decide +kernel
theorem dX8_levelOf_12 : decode cX8_levelOf 12 = .ok (.ireturn, 1) := by decide +kernel
theorem dX8_door_0 : decode cX8_door 0 = .ok (.iload_n 1, 1) := by decide +kernel
theorem dX8_door_1 : decode cX8_door 1 = .ok (.invokestatic 70, 3) := by decide +kernel
theorem dX8_door_4 : decode cX8_door 4 = .ok (.ifCond .eq 25, 3) := by decide +kernel
theorem dX8_door_7 : decode cX8_door 7 = .ok (.iload_n 2, 1) := by decide +kernel
theorem dX8_door_8 : decode cX8_door 8 = .ok (.invokestatic 70, 3) := by decide +kernel
theorem dX8_door_11 : decode cX8_door 11 = .ok (.ifCond .eq 18, 3) := by decide +kernel
theorem dX8_door_14 : decode cX8_door 14 = .ok (.iload_n 1, 1) := by decide +kernel
theorem dX8_door_15 : decode cX8_door 15 = .ok (.iload_n 2, 1) := by decide +kernel
theorem dX8_door_16 : decode cX8_door 16 = .ok (.if_icmp .eq 13, 3) := by decide +kernel
theorem dX8_door_19 : decode cX8_door 19 = .ok (.iload_n 3, 1) := by decide +kernel
theorem dX8_door_20 : decode cX8_door 20 = .ok (.i2l, 1) := by decide +kernel
theorem dX8_door_21 : decode cX8_door 21 = .ok (.lconst 0, 1) := by decide +kernel
theorem dX8_door_22 : decode cX8_door 22 = .ok (.lconst 1, 1) := by decide +kernel
theorem dX8_door_23 : decode cX8_door 23 = .ok (.invokestatic 54, 3) := by decide +kernel
theorem dX8_door_26 : decode cX8_door 26 = .ok (.ifCond .ne 9, 3) := by decide +kernel
theorem dX8_door_29 : decode cX8_door 29 = .ok (.aload_n 0, 1) := by decide +kernel
theorem dX8_door_30 : decode cX8_door 30 = .ok (.iconst 0, 1) := by decide +kernel
theorem dX8_door_31 : decode cX8_door 31 = .ok (.invokevirtual 74, 3) := by decide +kernel
theorem dX8_door_34 : decode cX8_door 34 = .ok (.ireturn, 1) := by decide +kernel
theorem dX8_door_35 : decode cX8_door 35 = .ok (.aload_n 0, 1) := by decide +kernel
theorem dX8_door_36 : decode cX8_door 36 = .ok (.iload_n 1, 1) := by decide +kernel
theorem dX8_door_37 : decode cX8_door 37 = .ok (.iload_n 2, 1) := by decide +kernel
theorem dX8_door_38 : decode cX8_door 38 = .ok (.invokevirtual 77, 3) := by decide +kernel
theorem dX8_door_41 : decode cX8_door 41 = .ok (.ifCond .eq 7, 3) := by decide +kernel
theorem dX8_door_44 : decode cX8_door 44 = .ok (.iconst 1, 1) := by decide +kernel
theorem dX8_door_45 : decode cX8_door 45 = .ok (.goto 4, 3) := by decide +kernel
theorem dX8_door_48 : decode cX8_door 48 = .ok (.iconst 0, 1) := by decide +kernel
theorem dX8_door_49 : decode cX8_door 49 = .ok (.istore 4, 2) := by decide +kernel
theorem dX8_door_51 : decode cX8_door 51 = .ok (.aload_n 0, 1) := by decide +kernel
theorem dX8_door_52 : decode cX8_door 52 = .ok (.iload_n 1, 1) := by decide +kernel
theorem dX8_door_53 : decode cX8_door 53 = .ok (.iload_n 2, 1) := by decide +kernel
theorem dX8_door_54 : decode cX8_door 54 = .ok (.iload_n 3, 1) := by decide +kernel
theorem dX8_door_55 : decode cX8_door 55 = .ok (.iconst 1, 1) := by decide +kernel
theorem dX8_door_56 : decode cX8_door 56 = .ok (.if_icmp .ne 7, 3) := by decide +kernel
theorem dX8_door_59 : decode cX8_door 59 = .ok (.iconst 1, 1) := by decide +kernel
theorem dX8_door_60 : decode cX8_door 60 = .ok (.goto 4, 3) := by decide +kernel
theorem dX8_door_63 : decode cX8_door 63 = .ok (.iconst 0, 1) := by decide +kernel
theorem dX8_door_64 : decode cX8_door 64 = .ok (.invokevirtual 43, 3) := by decide +kernel
theorem dX8_door_67 : decode cX8_door 67 = .ok (.iload 4, 2) := by decide +kernel
theorem dX8_door_69 : decode cX8_door 69 = .ok (.ireturn, 1) := by decide +kernel
theorem dX8_rule_0 : decode cX8_rule 0 = .ok (.iload_n 1, 1) := by decide +kernel
theorem dX8_rule_1 : decode cX8_rule 1 = .ok (.iconst 2, 1) := by decide +kernel
theorem dX8_rule_2 : decode cX8_rule 2 = .ok (.if_icmp .ne 15, 3) := by decide +kernel
theorem dX8_rule_5 : decode cX8_rule 5 = .ok (.iload_n 2, 1) := by decide +kernel
theorem dX8_rule_6 : decode cX8_rule 6 = .ok (.i2l, 1) := by decide +kernel
theorem dX8_rule_7 : decode cX8_rule 7 = .ok (.lconst 0, 1) := by decide +kernel
theorem dX8_rule_8 : decode cX8_rule 8 = .ok (.ldc2_w 81, 3) := by decide +kernel
theorem dX8_rule_11 : decode cX8_rule 11 = .ok (.invokestatic 54, 3) := by decide +kernel
theorem dX8_rule_14 : decode cX8_rule 14 = .ok (.goto 25, 3) := by decide +kernel
theorem dX8_rule_17 : decode cX8_rule 17 = .ok (.iload_n 1, 1) := by decide +kernel
theorem dX8_rule_18 : decode cX8_rule 18 = .ok (.i2l, 1) := by decide +kernel
theorem dX8_rule_19 : decode cX8_rule 19 = .ok (.lconst 0, 1) := by decide +kernel
theorem dX8_rule_20 : decode cX8_rule 20 = .ok (.lconst 1, 1) := by decide +kernel
theorem dX8_rule_21 : decode cX8_rule 21 = .ok (.invokestatic 54, 3) := by decide +kernel
theorem dX8_rule_24 : decode cX8_rule 24 = .ok (.ifCond .eq 14, 3) := by decide +kernel
theorem dX8_rule_27 : decode cX8_rule 27 = .ok (.iload_n 2, 1) := by decide +kernel
theorem dX8_rule_28 : decode cX8_rule 28 = .ok (.invokestatic 70, 3) := by decide +kernel
theorem dX8_rule_31 : decode cX8_rule 31 = .ok (.ifCond .eq 7, 3) := by decide +kernel
theorem dX8_rule_34 : decode cX8_rule 34 = .ok (.iconst 1, 1) := by decide +kernel
theorem dX8_rule_35 : decode cX8_rule 35 = .ok (.goto 4, 3) := by decide +kernel
theorem dX8_rule_38 : decode cX8_rule 38 = .ok (.iconst 0, 1) := by decide +kernel
theorem dX8_rule_39 : decode cX8_rule 39 = .ok (.istore_n 3, 1) := by decide +kernel
theorem dX8_rule_40 : decode cX8_rule 40 = .ok (.iload_n 3, 1) := by decide +kernel
theorem dX8_rule_41 : decode cX8_rule 41 = .ok (.ifCond .ne 9, 3) := by decide +kernel
theorem dX8_rule_44 : decode cX8_rule 44 = .ok (.aload_n 0, 1) := by decide +kernel
theorem dX8_rule_45 : decode cX8_rule 45 = .ok (.iconst 0, 1) := by decide +kernel
theorem dX8_rule_46 : decode cX8_rule 46 = .ok (.invokevirtual 74, 3) := by decide +kernel
theorem dX8_rule_49 : decode cX8_rule 49 = .ok (.ireturn, 1) := by decide +kernel
theorem dX8_rule_50 : decode cX8_rule 50 = .ok (.aload_n 0, 1) := by decide +kernel
theorem dX8_rule_51 : decode cX8_rule 51 = .ok (.getfield 9, 3) := by decide +kernel
theorem dX8_rule_54 : decode cX8_rule 54 = .ok (.bipush 8, 2) := by decide +kernel
theorem dX8_rule_56 : decode cX8_rule 56 = .ok (.iload_n 1, 1) := by decide +kernel
theorem dX8_rule_57 : decode cX8_rule 57 = .ok (.iadd, 1) := by decide +kernel
theorem dX8_rule_58 : decode cX8_rule 58 = .ok (.iaload, 1) := by decide +kernel
theorem dX8_rule_59 : decode cX8_rule 59 = .ok (.istore 4, 2) := by decide +kernel
theorem dX8_rule_61 : decode cX8_rule 61 = .ok (.aload_n 0, 1) := by decide +kernel
theorem dX8_rule_62 : decode cX8_rule 62 = .ok (.getfield 9, 3) := by decide +kernel
theorem dX8_rule_65 : decode cX8_rule 65 = .ok (.bipush 8, 2) := by decide +kernel
theorem dX8_rule_67 : decode cX8_rule 67 = .ok (.iload_n 1, 1) := by decide +kernel
theorem dX8_rule_68 : decode cX8_rule 68 = .ok (.iadd, 1) := by decide +kernel
theorem dX8_rule_69 : decode cX8_rule 69 = .ok (.iload_n 2, 1) := by decide +kernel
theorem dX8_rule_70 : decode cX8_rule 70 = .ok (.iastore, 1) := by decide +kernel
theorem dX8_rule_71 : decode cX8_rule 71 = .ok (.iload 4, 2) := by decide +kernel
theorem dX8_rule_73 : decode cX8_rule 73 = .ok (.ireturn, 1) := by decide +kernel
theorem dX8_lays_0 : decode cX8_lays 0 = .ok (.aload_n 0, 1) := by decide +kernel
theorem dX8_lays_1 : decode cX8_lays 1 = .ok (.getfield 9, 3) := by decide +kernel
theorem dX8_lays_4 : decode cX8_lays 4 = .ok (.bipush 28, 2) := by decide +kernel
theorem dX8_lays_6 : decode cX8_lays 6 = .ok (.aload_n 0, 1) := by decide +kernel
theorem dX8_lays_7 : decode cX8_lays 7 = .ok (.getfield 9, 3) := by decide +kernel
theorem dX8_lays_10 : decode cX8_lays 10 = .ok (.bipush 11, 2) := by decide +kernel
theorem dX8_lays_12 : decode cX8_lays 12 = .ok (.iaload, 1) := by decide +kernel
theorem dX8_lays_13 : decode cX8_lays 13 = .ok (.iadd, 1) := by decide +kernel
theorem dX8_lays_14 : decode cX8_lays 14 = .ok (.iload_n 1, 1) := by decide +kernel
theorem dX8_lays_15 : decode cX8_lays 15 = .ok (.iastore, 1) := by decide +kernel
theorem dX8_lays_16 : decode cX8_lays 16 = .ok (.aload_n 0, 1) := by decide +kernel
theorem dX8_lays_17 : decode cX8_lays 17 = .ok (.getfield 9, 3) := by decide +kernel
theorem dX8_lays_20 : decode cX8_lays 20 = .ok (.bipush 36, 2) := by decide +kernel
theorem dX8_lays_22 : decode cX8_lays 22 = .ok (.aload_n 0, 1) := by decide +kernel
theorem dX8_lays_23 : decode cX8_lays 23 = .ok (.getfield 9, 3) := by decide +kernel
theorem dX8_lays_26 : decode cX8_lays 26 = .ok (.bipush 11, 2) := by decide +kernel
theorem dX8_lays_28 : decode cX8_lays 28 = .ok (.iaload, 1) := by decide +kernel
theorem dX8_lays_29 : decode cX8_lays 29 = .ok (.iadd, 1) := by decide +kernel
theorem dX8_lays_30 : decode cX8_lays 30 = .ok (.iload_n 2, 1) := by decide +kernel
theorem dX8_lays_31 : decode cX8_lays 31 = .ok (.iastore, 1) := by decide +kernel
theorem dX8_lays_32 : decode cX8_lays 32 = .ok (.aload_n 0, 1) := by decide +kernel
theorem dX8_lays_33 : decode cX8_lays 33 = .ok (.getfield 9, 3) := by decide +kernel
theorem dX8_lays_36 : decode cX8_lays 36 = .ok (.bipush 44, 2) := by decide +kernel
theorem dX8_lays_38 : decode cX8_lays 38 = .ok (.aload_n 0, 1) := by decide +kernel
theorem dX8_lays_39 : decode cX8_lays 39 = .ok (.getfield 9, 3) := by decide +kernel
theorem dX8_lays_42 : decode cX8_lays 42 = .ok (.bipush 11, 2) := by decide +kernel
theorem dX8_lays_44 : decode cX8_lays 44 = .ok (.iaload, 1) := by decide +kernel
theorem dX8_lays_45 : decode cX8_lays 45 = .ok (.iadd, 1) := by decide +kernel
theorem dX8_lays_46 : decode cX8_lays 46 = .ok (.iload_n 3, 1) := by decide +kernel
theorem dX8_lays_47 : decode cX8_lays 47 = .ok (.iastore, 1) := by decide +kernel
theorem dX8_lays_48 : decode cX8_lays 48 = .ok (.aload_n 0, 1) := by decide +kernel
theorem dX8_lays_49 : decode cX8_lays 49 = .ok (.getfield 9, 3) := by decide +kernel
theorem dX8_lays_52 : decode cX8_lays 52 = .ok (.bipush 11, 2) := by decide +kernel
theorem dX8_lays_54 : decode cX8_lays 54 = .ok (.dup2, 1) := by decide +kernel
theorem dX8_lays_55 : decode cX8_lays 55 = .ok (.iaload, 1) := by decide +kernel
theorem dX8_lays_56 : decode cX8_lays 56 = .ok (.iconst 1, 1) := by decide +kernel
theorem dX8_lays_57 : decode cX8_lays 57 = .ok (.iadd, 1) := by decide +kernel
theorem dX8_lays_58 : decode cX8_lays 58 = .ok (.iastore, 1) := by decide +kernel
theorem dX8_lays_59 : decode cX8_lays 59 = .ok (.return_, 1) := by decide +kernel
theorem dX8_thing_0 : decode cX8_thing 0 = .ok (.iload_n 1, 1) := by decide +kernel
theorem dX8_thing_1 : decode cX8_thing 1 = .ok (.invokestatic 83, 3) := by decide +kernel
theorem dX8_thing_4 : decode cX8_thing 4 = .ok (.ifCond .eq 10, 3) := by decide +kernel
theorem dX8_thing_7 : decode cX8_thing 7 = .ok (.iload_n 2, 1) := by decide +kernel
theorem dX8_thing_8 : decode cX8_thing 8 = .ok (.invokestatic 70, 3) := by decide +kernel
theorem dX8_thing_11 : decode cX8_thing 11 = .ok (.ifCond .ne 9, 3) := by decide +kernel
theorem dX8_thing_14 : decode cX8_thing 14 = .ok (.aload_n 0, 1) := by decide +kernel
theorem dX8_thing_15 : decode cX8_thing 15 = .ok (.iconst 0, 1) := by decide +kernel
theorem dX8_thing_16 : decode cX8_thing 16 = .ok (.invokevirtual 74, 3) := by decide +kernel
theorem dX8_thing_19 : decode cX8_thing 19 = .ok (.ireturn, 1) := by decide +kernel
theorem dX8_thing_20 : decode cX8_thing 20 = .ok (.aload_n 0, 1) := by decide +kernel
theorem dX8_thing_21 : decode cX8_thing 21 = .ok (.getfield 9, 3) := by decide +kernel
theorem dX8_thing_24 : decode cX8_thing 24 = .ok (.bipush 11, 2) := by decide +kernel
theorem dX8_thing_26 : decode cX8_thing 26 = .ok (.iaload, 1) := by decide +kernel
theorem dX8_thing_27 : decode cX8_thing 27 = .ok (.bipush 8, 2) := by decide +kernel
theorem dX8_thing_29 : decode cX8_thing 29 = .ok (.if_icmp .ne 9, 3) := by decide +kernel
theorem dX8_thing_32 : decode cX8_thing 32 = .ok (.aload_n 0, 1) := by decide +kernel
theorem dX8_thing_33 : decode cX8_thing 33 = .ok (.iconst 1, 1) := by decide +kernel
theorem dX8_thing_34 : decode cX8_thing 34 = .ok (.invokevirtual 74, 3) := by decide +kernel
theorem dX8_thing_37 : decode cX8_thing 37 = .ok (.ireturn, 1) := by decide +kernel
theorem dX8_thing_38 : decode cX8_thing 38 = .ok (.aload_n 0, 1) := by decide +kernel
theorem dX8_thing_39 : decode cX8_thing 39 = .ok (.iload_n 1, 1) := by decide +kernel
theorem dX8_thing_40 : decode cX8_thing 40 = .ok (.iload_n 2, 1) := by decide +kernel
theorem dX8_thing_41 : decode cX8_thing 41 = .ok (.bipush 8, 2) := by decide +kernel
theorem dX8_thing_43 : decode cX8_thing 43 = .ok (.invokevirtual 86, 3) := by decide +kernel
theorem dX8_thing_46 : decode cX8_thing 46 = .ok (.aload_n 0, 1) := by decide +kernel
theorem dX8_thing_47 : decode cX8_thing 47 = .ok (.getfield 9, 3) := by decide +kernel
theorem dX8_thing_50 : decode cX8_thing 50 = .ok (.bipush 11, 2) := by decide +kernel
theorem dX8_thing_52 : decode cX8_thing 52 = .ok (.iaload, 1) := by decide +kernel
theorem dX8_thing_53 : decode cX8_thing 53 = .ok (.iconst 1, 1) := by decide +kernel
theorem dX8_thing_54 : decode cX8_thing 54 = .ok (.isub, 1) := by decide +kernel
theorem dX8_thing_55 : decode cX8_thing 55 = .ok (.ireturn, 1) := by decide +kernel
theorem dX8_of_0 : decode cX8_of 0 = .ok (.aload_n 0, 1) := by decide +kernel
theorem dX8_of_1 : decode cX8_of 1 = .ok (.iload_n 1, 1) := by decide +kernel
theorem dX8_of_2 : decode cX8_of 2 = .ok (.invokevirtual 90, 3) := by decide +kernel
theorem dX8_of_5 : decode cX8_of 5 = .ok (.ifCond .eq 15, 3) := by decide +kernel
theorem dX8_of_8 : decode cX8_of 8 = .ok (.iload_n 2, 1) := by decide +kernel
theorem dX8_of_9 : decode cX8_of 9 = .ok (.i2l, 1) := by decide +kernel
theorem dX8_of_10 : decode cX8_of 10 = .ok (.lconst 0, 1) := by decide +kernel
theorem dX8_of_11 : decode cX8_of 11 = .ok (.ldc2_w 52, 3) := by decide +kernel
theorem dX8_of_14 : decode cX8_of 14 = .ok (.invokestatic 54, 3) := by decide +kernel
theorem dX8_of_17 : decode cX8_of 17 = .ok (.ifCond .ne 9, 3) := by decide +kernel
theorem dX8_of_20 : decode cX8_of 20 = .ok (.aload_n 0, 1) := by decide +kernel
theorem dX8_of_21 : decode cX8_of 21 = .ok (.iconst 0, 1) := by decide +kernel
theorem dX8_of_22 : decode cX8_of 22 = .ok (.invokevirtual 74, 3) := by decide +kernel
theorem dX8_of_25 : decode cX8_of 25 = .ok (.ireturn, 1) := by decide +kernel
theorem dX8_of_26 : decode cX8_of 26 = .ok (.iload_n 2, 1) := by decide +kernel
theorem dX8_of_27 : decode cX8_of 27 = .ok (.iconst 3, 1) := by decide +kernel
theorem dX8_of_28 : decode cX8_of 28 = .ok (.if_icmp .ge 20, 3) := by decide +kernel
theorem dX8_of_31 : decode cX8_of 31 = .ok (.aload_n 0, 1) := by decide +kernel
theorem dX8_of_32 : decode cX8_of 32 = .ok (.getfield 9, 3) := by decide +kernel
theorem dX8_of_35 : decode cX8_of 35 = .ok (.bipush 28, 2) := by decide +kernel
theorem dX8_of_37 : decode cX8_of 37 = .ok (.bipush 8, 2) := by decide +kernel
theorem dX8_of_39 : decode cX8_of 39 = .ok (.iload_n 2, 1) := by decide +kernel
theorem dX8_of_40 : decode cX8_of 40 = .ok (.imul, 1) := by decide +kernel
theorem dX8_of_41 : decode cX8_of 41 = .ok (.iadd, 1) := by decide +kernel
theorem dX8_of_42 : decode cX8_of 42 = .ok (.iload_n 1, 1) := by decide +kernel
theorem dX8_of_43 : decode cX8_of 43 = .ok (.iadd, 1) := by decide +kernel
theorem dX8_of_44 : decode cX8_of 44 = .ok (.iaload, 1) := by decide +kernel
theorem dX8_of_45 : decode cX8_of 45 = .ok (.goto 11, 3) := by decide +kernel
theorem dX8_of_48 : decode cX8_of 48 = .ok (.aload_n 0, 1) := by decide +kernel
theorem dX8_of_49 : decode cX8_of 49 = .ok (.iload_n 1, 1) := by decide +kernel
theorem dX8_of_50 : decode cX8_of 50 = .ok (.iload_n 2, 1) := by decide +kernel
theorem dX8_of_51 : decode cX8_of 51 = .ok (.iconst 3, 1) := by decide +kernel
theorem dX8_of_52 : decode cX8_of 52 = .ok (.isub, 1) := by decide +kernel
theorem dX8_of_53 : decode cX8_of 53 = .ok (.invokevirtual 93, 3) := by decide +kernel
theorem dX8_of_56 : decode cX8_of 56 = .ok (.ireturn, 1) := by decide +kernel
theorem dX8_change_0 : decode cX8_change 0 = .ok (.iload_n 2, 1) := by decide +kernel
theorem dX8_change_1 : decode cX8_change 1 = .ok (.ifCond .ne 10, 3) := by decide +kernel
theorem dX8_change_4 : decode cX8_change 4 = .ok (.iload_n 3, 1) := by decide +kernel
theorem dX8_change_5 : decode cX8_change 5 = .ok (.invokestatic 83, 3) := by decide +kernel
theorem dX8_change_8 : decode cX8_change 8 = .ok (.goto 37, 3) := by decide +kernel
theorem dX8_change_11 : decode cX8_change 11 = .ok (.iload_n 2, 1) := by decide +kernel
theorem dX8_change_12 : decode cX8_change 12 = .ok (.iconst 1, 1) := by decide +kernel
theorem dX8_change_13 : decode cX8_change 13 = .ok (.if_icmp .ne 10, 3) := by decide +kernel
theorem dX8_change_16 : decode cX8_change 16 = .ok (.iload_n 3, 1) := by decide +kernel
theorem dX8_change_17 : decode cX8_change 17 = .ok (.invokestatic 70, 3) := by decide +kernel
theorem dX8_change_20 : decode cX8_change 20 = .ok (.goto 25, 3) := by decide +kernel
theorem dX8_change_23 : decode cX8_change 23 = .ok (.iload_n 2, 1) := by decide +kernel
theorem dX8_change_24 : decode cX8_change 24 = .ok (.iconst 2, 1) := by decide +kernel
theorem dX8_change_25 : decode cX8_change 25 = .ok (.if_icmp .ne 19, 3) := by decide +kernel
theorem dX8_change_28 : decode cX8_change 28 = .ok (.iload_n 3, 1) := by decide +kernel
theorem dX8_change_29 : decode cX8_change 29 = .ok (.i2l, 1) := by decide +kernel
theorem dX8_change_30 : decode cX8_change 30 = .ok (.lconst 1, 1) := by decide +kernel
theorem dX8_change_31 : decode cX8_change 31 = .ok (.ldc2_w 97, 3) := by decide +kernel
theorem dX8_change_34 : decode cX8_change 34 = .ok (.invokestatic 54, 3) := by decide +kernel
theorem dX8_change_37 : decode cX8_change 37 = .ok (.ifCond .eq 7, 3) := by decide +kernel
theorem dX8_change_40 : decode cX8_change 40 = .ok (.iconst 1, 1) := by decide +kernel
theorem dX8_change_41 : decode cX8_change 41 = .ok (.goto 4, 3) := by decide +kernel
theorem dX8_change_44 : decode cX8_change 44 = .ok (.iconst 0, 1) := by decide +kernel
theorem dX8_change_45 : decode cX8_change 45 = .ok (.istore 4, 2) := by decide +kernel
theorem dX8_change_47 : decode cX8_change 47 = .ok (.aload_n 0, 1) := by decide +kernel
theorem dX8_change_48 : decode cX8_change 48 = .ok (.iload_n 1, 1) := by decide +kernel
theorem dX8_change_49 : decode cX8_change 49 = .ok (.invokevirtual 90, 3) := by decide +kernel
theorem dX8_change_52 : decode cX8_change 52 = .ok (.ifCond .eq 8, 3) := by decide +kernel
theorem dX8_change_55 : decode cX8_change 55 = .ok (.iload 4, 2) := by decide +kernel
theorem dX8_change_57 : decode cX8_change 57 = .ok (.ifCond .ne 9, 3) := by decide +kernel
theorem dX8_change_60 : decode cX8_change 60 = .ok (.aload_n 0, 1) := by decide +kernel
theorem dX8_change_61 : decode cX8_change 61 = .ok (.iconst 0, 1) := by decide +kernel
theorem dX8_change_62 : decode cX8_change 62 = .ok (.invokevirtual 74, 3) := by decide +kernel
theorem dX8_change_65 : decode cX8_change 65 = .ok (.ireturn, 1) := by decide +kernel
theorem dX8_change_66 : decode cX8_change 66 = .ok (.aload_n 0, 1) := by decide +kernel
theorem dX8_change_67 : decode cX8_change 67 = .ok (.getfield 9, 3) := by decide +kernel
theorem dX8_change_70 : decode cX8_change 70 = .ok (.bipush 28, 2) := by decide +kernel
theorem dX8_change_72 : decode cX8_change 72 = .ok (.bipush 8, 2) := by decide +kernel
theorem dX8_change_74 : decode cX8_change 74 = .ok (.iload_n 2, 1) := by decide +kernel
theorem dX8_change_75 : decode cX8_change 75 = .ok (.imul, 1) := by decide +kernel
theorem dX8_change_76 : decode cX8_change 76 = .ok (.iadd, 1) := by decide +kernel
theorem dX8_change_77 : decode cX8_change 77 = .ok (.iload_n 1, 1) := by decide +kernel
theorem dX8_change_78 : decode cX8_change 78 = .ok (.iadd, 1) := by decide +kernel
theorem dX8_change_79 : decode cX8_change 79 = .ok (.iaload, 1) := by decide +kernel
theorem dX8_change_80 : decode cX8_change 80 = .ok (.istore 5, 2) := by decide +kernel
theorem dX8_change_82 : decode cX8_change 82 = .ok (.aload_n 0, 1) := by decide +kernel
theorem dX8_change_83 : decode cX8_change 83 = .ok (.getfield 9, 3) := by decide +kernel
theorem dX8_change_86 : decode cX8_change 86 = .ok (.bipush 28, 2) := by decide +kernel
theorem dX8_change_88 : decode cX8_change 88 = .ok (.bipush 8, 2) := by decide +kernel
theorem dX8_change_90 : decode cX8_change 90 = .ok (.iload_n 2, 1) := by decide +kernel
theorem dX8_change_91 : decode cX8_change 91 = .ok (.imul, 1) := by decide +kernel
theorem dX8_change_92 : decode cX8_change 92 = .ok (.iadd, 1) := by decide +kernel
theorem dX8_change_93 : decode cX8_change 93 = .ok (.iload_n 1, 1) := by decide +kernel
theorem dX8_change_94 : decode cX8_change 94 = .ok (.iadd, 1) := by decide +kernel
theorem dX8_change_95 : decode cX8_change 95 = .ok (.iload_n 3, 1) := by decide +kernel
theorem dX8_change_96 : decode cX8_change 96 = .ok (.iastore, 1) := by decide +kernel
theorem dX8_change_97 : decode cX8_change 97 = .ok (.iload 5, 2) := by decide +kernel
theorem dX8_change_99 : decode cX8_change 99 = .ok (.ireturn, 1) := by decide +kernel
theorem dX8_comes_0 : decode cX8_comes 0 = .ok (.aload_n 0, 1) := by decide +kernel
theorem dX8_comes_1 : decode cX8_comes 1 = .ok (.getfield 9, 3) := by decide +kernel
theorem dX8_comes_4 : decode cX8_comes 4 = .ok (.bipush 52, 2) := by decide +kernel
theorem dX8_comes_6 : decode cX8_comes 6 = .ok (.aload_n 0, 1) := by decide +kernel
theorem dX8_comes_7 : decode cX8_comes 7 = .ok (.getfield 9, 3) := by decide +kernel
theorem dX8_comes_10 : decode cX8_comes 10 = .ok (.bipush 12, 2) := by decide +kernel
theorem dX8_comes_12 : decode cX8_comes 12 = .ok (.iaload, 1) := by decide +kernel
theorem dX8_comes_13 : decode cX8_comes 13 = .ok (.iadd, 1) := by decide +kernel
theorem dX8_comes_14 : decode cX8_comes 14 = .ok (.iload_n 1, 1) := by decide +kernel
theorem dX8_comes_15 : decode cX8_comes 15 = .ok (.iastore, 1) := by decide +kernel
theorem dX8_comes_16 : decode cX8_comes 16 = .ok (.aload_n 0, 1) := by decide +kernel
theorem dX8_comes_17 : decode cX8_comes 17 = .ok (.getfield 9, 3) := by decide +kernel
theorem dX8_comes_20 : decode cX8_comes 20 = .ok (.bipush 56, 2) := by decide +kernel
theorem dX8_comes_22 : decode cX8_comes 22 = .ok (.aload_n 0, 1) := by decide +kernel
theorem dX8_comes_23 : decode cX8_comes 23 = .ok (.getfield 9, 3) := by decide +kernel
theorem dX8_comes_26 : decode cX8_comes 26 = .ok (.bipush 12, 2) := by decide +kernel
theorem dX8_comes_28 : decode cX8_comes 28 = .ok (.iaload, 1) := by decide +kernel
theorem dX8_comes_29 : decode cX8_comes 29 = .ok (.iadd, 1) := by decide +kernel
theorem dX8_comes_30 : decode cX8_comes 30 = .ok (.iload_n 2, 1) := by decide +kernel
theorem dX8_comes_31 : decode cX8_comes 31 = .ok (.iastore, 1) := by decide +kernel
theorem dX8_comes_32 : decode cX8_comes 32 = .ok (.aload_n 0, 1) := by decide +kernel
theorem dX8_comes_33 : decode cX8_comes 33 = .ok (.getfield 9, 3) := by decide +kernel
theorem dX8_comes_36 : decode cX8_comes 36 = .ok (.bipush 12, 2) := by decide +kernel
theorem dX8_comes_38 : decode cX8_comes 38 = .ok (.dup2, 1) := by decide +kernel
theorem dX8_comes_39 : decode cX8_comes 39 = .ok (.iaload, 1) := by decide +kernel
theorem dX8_comes_40 : decode cX8_comes 40 = .ok (.iconst 1, 1) := by decide +kernel
theorem dX8_comes_41 : decode cX8_comes 41 = .ok (.iadd, 1) := by decide +kernel
theorem dX8_comes_42 : decode cX8_comes 42 = .ok (.iastore, 1) := by decide +kernel
theorem dX8_comes_43 : decode cX8_comes 43 = .ok (.return_, 1) := by decide +kernel
theorem dX8_one_0 : decode cX8_one 0 = .ok (.iload_n 1, 1) := by decide +kernel
theorem dX8_one_1 : decode cX8_one 1 = .ok (.invokestatic 99, 3) := by decide +kernel
theorem dX8_one_4 : decode cX8_one 4 = .ok (.ifCond .ne 9, 3) := by decide +kernel
theorem dX8_one_7 : decode cX8_one 7 = .ok (.aload_n 0, 1) := by decide +kernel
theorem dX8_one_8 : decode cX8_one 8 = .ok (.iconst 0, 1) := by decide +kernel
theorem dX8_one_9 : decode cX8_one 9 = .ok (.invokevirtual 74, 3) := by decide +kernel
theorem dX8_one_12 : decode cX8_one 12 = .ok (.ireturn, 1) := by decide +kernel
theorem dX8_one_13 : decode cX8_one 13 = .ok (.aload_n 0, 1) := by decide +kernel
theorem dX8_one_14 : decode cX8_one 14 = .ok (.getfield 9, 3) := by decide +kernel
theorem dX8_one_17 : decode cX8_one 17 = .ok (.bipush 12, 2) := by decide +kernel
theorem dX8_one_19 : decode cX8_one 19 = .ok (.iaload, 1) := by decide +kernel
theorem dX8_one_20 : decode cX8_one 20 = .ok (.iconst 4, 1) := by decide +kernel
theorem dX8_one_21 : decode cX8_one 21 = .ok (.if_icmp .ne 9, 3) := by decide +kernel
theorem dX8_one_24 : decode cX8_one 24 = .ok (.aload_n 0, 1) := by decide +kernel
theorem dX8_one_25 : decode cX8_one 25 = .ok (.iconst 1, 1) := by decide +kernel
theorem dX8_one_26 : decode cX8_one 26 = .ok (.invokevirtual 74, 3) := by decide +kernel
theorem dX8_one_29 : decode cX8_one 29 = .ok (.ireturn, 1) := by decide +kernel
theorem dX8_one_30 : decode cX8_one 30 = .ok (.aload_n 0, 1) := by decide +kernel
theorem dX8_one_31 : decode cX8_one 31 = .ok (.iload_n 1, 1) := by decide +kernel
theorem dX8_one_32 : decode cX8_one 32 = .ok (.bipush 10, 2) := by decide +kernel
theorem dX8_one_34 : decode cX8_one 34 = .ok (.invokevirtual 102, 3) := by decide +kernel
theorem dX8_one_37 : decode cX8_one 37 = .ok (.aload_n 0, 1) := by decide +kernel
theorem dX8_one_38 : decode cX8_one 38 = .ok (.getfield 9, 3) := by decide +kernel
theorem dX8_one_41 : decode cX8_one 41 = .ok (.bipush 12, 2) := by decide +kernel
theorem dX8_one_43 : decode cX8_one 43 = .ok (.iaload, 1) := by decide +kernel
theorem dX8_one_44 : decode cX8_one 44 = .ok (.iconst 1, 1) := by decide +kernel
theorem dX8_one_45 : decode cX8_one 45 = .ok (.isub, 1) := by decide +kernel
theorem dX8_one_46 : decode cX8_one 46 = .ok (.ireturn, 1) := by decide +kernel
theorem dX8_person_0 : decode cX8_person 0 = .ok (.iload_n 2, 1) := by decide +kernel
theorem dX8_person_1 : decode cX8_person 1 = .ok (.ifCond .ne 10, 3) := by decide +kernel
theorem dX8_person_4 : decode cX8_person 4 = .ok (.iload_n 3, 1) := by decide +kernel
theorem dX8_person_5 : decode cX8_person 5 = .ok (.invokestatic 99, 3) := by decide +kernel
theorem dX8_person_8 : decode cX8_person 8 = .ok (.goto 25, 3) := by decide +kernel
theorem dX8_person_11 : decode cX8_person 11 = .ok (.iload_n 2, 1) := by decide +kernel
theorem dX8_person_12 : decode cX8_person 12 = .ok (.iconst 1, 1) := by decide +kernel
theorem dX8_person_13 : decode cX8_person 13 = .ok (.if_icmp .ne 19, 3) := by decide +kernel
theorem dX8_person_16 : decode cX8_person 16 = .ok (.iload_n 3, 1) := by decide +kernel
theorem dX8_person_17 : decode cX8_person 17 = .ok (.i2l, 1) := by decide +kernel
theorem dX8_person_18 : decode cX8_person 18 = .ok (.lconst 0, 1) := by decide +kernel
theorem dX8_person_19 : decode cX8_person 19 = .ok (.ldc2_w 97, 3) := by decide +kernel
theorem dX8_person_22 : decode cX8_person 22 = .ok (.invokestatic 54, 3) := by decide +kernel
theorem dX8_person_25 : decode cX8_person 25 = .ok (.ifCond .eq 7, 3) := by decide +kernel
theorem dX8_person_28 : decode cX8_person 28 = .ok (.iconst 1, 1) := by decide +kernel
theorem dX8_person_29 : decode cX8_person 29 = .ok (.goto 4, 3) := by decide +kernel
theorem dX8_person_32 : decode cX8_person 32 = .ok (.iconst 0, 1) := by decide +kernel
theorem dX8_person_33 : decode cX8_person 33 = .ok (.istore 4, 2) := by decide +kernel
theorem dX8_person_35 : decode cX8_person 35 = .ok (.aload_n 0, 1) := by decide +kernel
theorem dX8_person_36 : decode cX8_person 36 = .ok (.iload_n 1, 1) := by decide +kernel
theorem dX8_person_37 : decode cX8_person 37 = .ok (.invokevirtual 106, 3) := by decide +kernel
theorem dX8_person_40 : decode cX8_person 40 = .ok (.ifCond .eq 8, 3) := by decide +kernel
theorem dX8_person_43 : decode cX8_person 43 = .ok (.iload 4, 2) := by decide +kernel
theorem dX8_person_45 : decode cX8_person 45 = .ok (.ifCond .ne 9, 3) := by decide +kernel
theorem dX8_person_48 : decode cX8_person 48 = .ok (.aload_n 0, 1) := by decide +kernel
theorem dX8_person_49 : decode cX8_person 49 = .ok (.iconst 0, 1) := by decide +kernel
theorem dX8_person_50 : decode cX8_person 50 = .ok (.invokevirtual 74, 3) := by decide +kernel
theorem dX8_person_53 : decode cX8_person 53 = .ok (.ireturn, 1) := by decide +kernel
theorem dX8_person_54 : decode cX8_person 54 = .ok (.aload_n 0, 1) := by decide +kernel
theorem dX8_person_55 : decode cX8_person 55 = .ok (.getfield 9, 3) := by decide +kernel
theorem dX8_person_58 : decode cX8_person 58 = .ok (.bipush 52, 2) := by decide +kernel
theorem dX8_person_60 : decode cX8_person 60 = .ok (.iconst 4, 1) := by decide +kernel
theorem dX8_person_61 : decode cX8_person 61 = .ok (.iload_n 2, 1) := by decide +kernel
theorem dX8_person_62 : decode cX8_person 62 = .ok (.imul, 1) := by decide +kernel
theorem dX8_person_63 : decode cX8_person 63 = .ok (.iadd, 1) := by decide +kernel
theorem dX8_person_64 : decode cX8_person 64 = .ok (.iload_n 1, 1) := by decide +kernel
theorem dX8_person_65 : decode cX8_person 65 = .ok (.iadd, 1) := by decide +kernel
theorem dX8_person_66 : decode cX8_person 66 = .ok (.iaload, 1) := by decide +kernel
theorem dX8_person_67 : decode cX8_person 67 = .ok (.istore 5, 2) := by decide +kernel
theorem dX8_person_69 : decode cX8_person 69 = .ok (.aload_n 0, 1) := by decide +kernel
theorem dX8_person_70 : decode cX8_person 70 = .ok (.getfield 9, 3) := by decide +kernel
theorem dX8_person_73 : decode cX8_person 73 = .ok (.bipush 52, 2) := by decide +kernel
theorem dX8_person_75 : decode cX8_person 75 = .ok (.iconst 4, 1) := by decide +kernel
theorem dX8_person_76 : decode cX8_person 76 = .ok (.iload_n 2, 1) := by decide +kernel
theorem dX8_person_77 : decode cX8_person 77 = .ok (.imul, 1) := by decide +kernel
theorem dX8_person_78 : decode cX8_person 78 = .ok (.iadd, 1) := by decide +kernel
theorem dX8_person_79 : decode cX8_person 79 = .ok (.iload_n 1, 1) := by decide +kernel
theorem dX8_person_80 : decode cX8_person 80 = .ok (.iadd, 1) := by decide +kernel
theorem dX8_person_81 : decode cX8_person 81 = .ok (.iload_n 3, 1) := by decide +kernel
theorem dX8_person_82 : decode cX8_person 82 = .ok (.iastore, 1) := by decide +kernel
theorem dX8_person_83 : decode cX8_person 83 = .ok (.iload 5, 2) := by decide +kernel
theorem dX8_person_85 : decode cX8_person 85 = .ok (.ireturn, 1) := by decide +kernel
theorem dX8_tell_0 : decode cX8_tell 0 = .ok (.aload_n 0, 1) := by decide +kernel
theorem dX8_tell_1 : decode cX8_tell 1 = .ok (.iload_n 1, 1) := by decide +kernel
theorem dX8_tell_2 : decode cX8_tell 2 = .ok (.invokevirtual 106, 3) := by decide +kernel
theorem dX8_tell_5 : decode cX8_tell 5 = .ok (.ifCond .eq 29, 3) := by decide +kernel
theorem dX8_tell_8 : decode cX8_tell 8 = .ok (.iload_n 2, 1) := by decide +kernel
theorem dX8_tell_9 : decode cX8_tell 9 = .ok (.i2l, 1) := by decide +kernel
theorem dX8_tell_10 : decode cX8_tell 10 = .ok (.lconst 0, 1) := by decide +kernel
theorem dX8_tell_11 : decode cX8_tell 11 = .ok (.lconst 1, 1) := by decide +kernel
theorem dX8_tell_12 : decode cX8_tell 12 = .ok (.invokestatic 54, 3) := by decide +kernel
theorem dX8_tell_15 : decode cX8_tell 15 = .ok (.ifCond .eq 19, 3) := by decide +kernel
theorem dX8_tell_18 : decode cX8_tell 18 = .ok (.aload_n 0, 1) := by decide +kernel
theorem dX8_tell_19 : decode cX8_tell 19 = .ok (.getfield 9, 3) := by decide +kernel
theorem dX8_tell_22 : decode cX8_tell 22 = .ok (.bipush 52, 2) := by decide +kernel
theorem dX8_tell_24 : decode cX8_tell 24 = .ok (.iconst 4, 1) := by decide +kernel
theorem dX8_tell_25 : decode cX8_tell 25 = .ok (.iload_n 2, 1) := by decide +kernel
theorem dX8_tell_26 : decode cX8_tell 26 = .ok (.imul, 1) := by decide +kernel
theorem dX8_tell_27 : decode cX8_tell 27 = .ok (.iadd, 1) := by decide +kernel
theorem dX8_tell_28 : decode cX8_tell 28 = .ok (.iload_n 1, 1) := by decide +kernel
theorem dX8_tell_29 : decode cX8_tell 29 = .ok (.iadd, 1) := by decide +kernel
theorem dX8_tell_30 : decode cX8_tell 30 = .ok (.iaload, 1) := by decide +kernel
theorem dX8_tell_31 : decode cX8_tell 31 = .ok (.goto 8, 3) := by decide +kernel
theorem dX8_tell_34 : decode cX8_tell 34 = .ok (.aload_n 0, 1) := by decide +kernel
theorem dX8_tell_35 : decode cX8_tell 35 = .ok (.iconst 0, 1) := by decide +kernel
theorem dX8_tell_36 : decode cX8_tell 36 = .ok (.invokevirtual 74, 3) := by decide +kernel
theorem dX8_tell_39 : decode cX8_tell 39 = .ok (.ireturn, 1) := by decide +kernel
theorem dX8_lie_0 : decode cX8_lie 0 = .ok (.iload_n 1, 1) := by decide +kernel
theorem dX8_lie_1 : decode cX8_lie 1 = .ok (.invokestatic 70, 3) := by decide +kernel
theorem dX8_lie_4 : decode cX8_lie 4 = .ok (.ifCond .ne 9, 3) := by decide +kernel
theorem dX8_lie_7 : decode cX8_lie 7 = .ok (.aload_n 0, 1) := by decide +kernel
theorem dX8_lie_8 : decode cX8_lie 8 = .ok (.iconst 0, 1) := by decide +kernel
theorem dX8_lie_9 : decode cX8_lie 9 = .ok (.invokevirtual 74, 3) := by decide +kernel
theorem dX8_lie_12 : decode cX8_lie 12 = .ok (.ireturn, 1) := by decide +kernel
theorem dX8_lie_13 : decode cX8_lie 13 = .ok (.iconst 0, 1) := by decide +kernel
theorem dX8_lie_14 : decode cX8_lie 14 = .ok (.istore_n 2, 1) := by decide +kernel
theorem dX8_lie_15 : decode cX8_lie 15 = .ok (.iconst 0, 1) := by decide +kernel
theorem dX8_lie_16 : decode cX8_lie 16 = .ok (.istore_n 3, 1) := by decide +kernel
theorem dX8_lie_17 : decode cX8_lie 17 = .ok (.iload_n 3, 1) := by decide +kernel
theorem dX8_lie_18 : decode cX8_lie 18 = .ok (.aload_n 0, 1) := by decide +kernel
theorem dX8_lie_19 : decode cX8_lie 19 = .ok (.getfield 9, 3) := by decide +kernel
theorem dX8_lie_22 : decode cX8_lie 22 = .ok (.bipush 11, 2) := by decide +kernel
theorem dX8_lie_24 : decode cX8_lie 24 = .ok (.iaload, 1) := by decide +kernel
theorem dX8_lie_25 : decode cX8_lie 25 = .ok (.if_icmp .ge 32, 3) := by decide +kernel
theorem dX8_lie_28 : decode cX8_lie 28 = .ok (.iload_n 2, 1) := by decide +kernel
theorem dX8_lie_29 : decode cX8_lie 29 = .ok (.aload_n 0, 1) := by decide +kernel
theorem dX8_lie_30 : decode cX8_lie 30 = .ok (.getfield 9, 3) := by decide +kernel
theorem dX8_lie_33 : decode cX8_lie 33 = .ok (.bipush 36, 2) := by decide +kernel
theorem dX8_lie_35 : decode cX8_lie 35 = .ok (.iload_n 3, 1) := by decide +kernel
theorem dX8_lie_36 : decode cX8_lie 36 = .ok (.iadd, 1) := by decide +kernel
theorem dX8_lie_37 : decode cX8_lie 37 = .ok (.iaload, 1) := by decide +kernel
theorem dX8_lie_38 : decode cX8_lie 38 = .ok (.iload_n 1, 1) := by decide +kernel
theorem dX8_lie_39 : decode cX8_lie 39 = .ok (.if_icmp .ne 9, 3) := by decide +kernel
theorem dX8_lie_42 : decode cX8_lie 42 = .ok (.iconst 1, 1) := by decide +kernel
theorem dX8_lie_43 : decode cX8_lie 43 = .ok (.iload_n 3, 1) := by decide +kernel
theorem dX8_lie_44 : decode cX8_lie 44 = .ok (.ishl, 1) := by decide +kernel
theorem dX8_lie_45 : decode cX8_lie 45 = .ok (.goto 4, 3) := by decide +kernel
theorem dX8_lie_48 : decode cX8_lie 48 = .ok (.iconst 0, 1) := by decide +kernel
theorem dX8_lie_49 : decode cX8_lie 49 = .ok (.ior, 1) := by decide +kernel
theorem dX8_lie_50 : decode cX8_lie 50 = .ok (.istore_n 2, 1) := by decide +kernel
theorem dX8_lie_51 : decode cX8_lie 51 = .ok (.iinc 3 1, 3) := by decide +kernel
theorem dX8_lie_54 : decode cX8_lie 54 = .ok (.goto (-37), 3) := by decide +kernel
theorem dX8_lie_57 : decode cX8_lie 57 = .ok (.iload_n 2, 1) := by decide +kernel
theorem dX8_lie_58 : decode cX8_lie 58 = .ok (.ireturn, 1) := by decide +kernel
