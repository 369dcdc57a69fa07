theorem dX8_deep_0 : decode cX8_deep 0 = .ok (.iload_n 1, 1) := by decide +kernel
theorem dX8_deep_1 : decode cX8_deep 1 = .ok (.i2l, 1) := by decide +kernel
theorem dX8_deep_2 : decode cX8_deep 2 = .ok (.lconst 1, 1) := by decide +kernel
theorem dX8_deep_3 : decode cX8_deep 3 = .ok (.ldc2_w 209, 3) := by decide +kernel
theorem dX8_deep_6 : decode cX8_deep 6 = .ok (.invokestatic 54, 3) := by decide +kernel
theorem dX8_deep_9 : decode cX8_deep 9 = .ok (.ifCond .eq 15, 3) := by decide +kernel
theorem dX8_deep_12 : decode cX8_deep 12 = .ok (.iload_n 2, 1) := by decide +kernel
theorem dX8_deep_13 : decode cX8_deep 13 = .ok (.i2l, 1) := by decide +kernel
theorem dX8_deep_14 : decode cX8_deep 14 = .ok (.lconst 1, 1) := by decide +kernel
theorem dX8_deep_15 : decode cX8_deep 15 = .ok (.ldc2_w 226, 3) := by decide +kernel
theorem dX8_deep_18 : decode cX8_deep 18 = .ok (.invokestatic 54, 3) := by decide +kernel
theorem dX8_deep_21 : decode cX8_deep 21 = .ok (.ifCond .ne 9, 3) := by decide +kernel
theorem dX8_deep_24 : decode cX8_deep 24 = .ok (.aload_n 0, 1) := by decide +kernel
theorem dX8_deep_25 : decode cX8_deep 25 = .ok (.iconst 0, 1) := by decide +kernel
theorem dX8_deep_26 : decode cX8_deep 26 = .ok (.invokevirtual 74, 3) := by decide +kernel
theorem dX8_deep_29 : decode cX8_deep 29 = .ok (.ireturn, 1) := by decide +kernel
theorem dX8_deep_30 : decode cX8_deep 30 = .ok (.iconst 0, 1) := by decide +kernel
theorem dX8_deep_31 : decode cX8_deep 31 = .ok (.istore_n 3, 1) := by decide +kernel
theorem dX8_deep_32 : decode cX8_deep 32 = .ok (.iload_n 3, 1) := by decide +kernel
theorem dX8_deep_33 : decode cX8_deep 33 = .ok (.bipush 62, 2) := by decide +kernel
theorem dX8_deep_35 : decode cX8_deep 35 = .ok (.if_icmp .gt 30, 3) := by decide +kernel
theorem dX8_deep_38 : decode cX8_deep 38 = .ok (.iload_n 1, 1) := by decide +kernel
theorem dX8_deep_39 : decode cX8_deep 39 = .ok (.iload_n 3, 1) := by decide +kernel
theorem dX8_deep_40 : decode cX8_deep 40 = .ok (.invokestatic 214, 3) := by decide +kernel
theorem dX8_deep_43 : decode cX8_deep 43 = .ok (.lconst 0, 1) := by decide +kernel
theorem dX8_deep_44 : decode cX8_deep 44 = .ok (.lcmp, 1) := by decide +kernel
theorem dX8_deep_45 : decode cX8_deep 45 = .ok (.ifCond .lt 20, 3) := by decide +kernel
theorem dX8_deep_48 : decode cX8_deep 48 = .ok (.iload_n 1, 1) := by decide +kernel
theorem dX8_deep_49 : decode cX8_deep 49 = .ok (.iload_n 3, 1) := by decide +kernel
theorem dX8_deep_50 : decode cX8_deep 50 = .ok (.invokestatic 214, 3) := by decide +kernel
theorem dX8_deep_53 : decode cX8_deep 53 = .ok (.iload_n 2, 1) := by decide +kernel
theorem dX8_deep_54 : decode cX8_deep 54 = .ok (.i2l, 1) := by decide +kernel
theorem dX8_deep_55 : decode cX8_deep 55 = .ok (.lcmp, 1) := by decide +kernel
theorem dX8_deep_56 : decode cX8_deep 56 = .ok (.ifCond .ge 9, 3) := by decide +kernel
theorem dX8_deep_59 : decode cX8_deep 59 = .ok (.iinc 3 1, 3) := by decide +kernel
theorem dX8_deep_62 : decode cX8_deep 62 = .ok (.goto (-30), 3) := by decide +kernel
theorem dX8_deep_65 : decode cX8_deep 65 = .ok (.iload_n 3, 1) := by decide +kernel
theorem dX8_deep_66 : decode cX8_deep 66 = .ok (.bipush 62, 2) := by decide +kernel
theorem dX8_deep_68 : decode cX8_deep 68 = .ok (.if_icmp .gt 7, 3) := by decide +kernel
theorem dX8_deep_71 : decode cX8_deep 71 = .ok (.iload_n 3, 1) := by decide +kernel
theorem dX8_deep_72 : decode cX8_deep 72 = .ok (.goto 8, 3) := by decide +kernel
theorem dX8_deep_75 : decode cX8_deep 75 = .ok (.aload_n 0, 1) := by decide +kernel
theorem dX8_deep_76 : decode cX8_deep 76 = .ok (.iconst 3, 1) := by decide +kernel
theorem dX8_deep_77 : decode cX8_deep 77 = .ok (.invokevirtual 74, 3) := by decide +kernel
theorem dX8_deep_80 : decode cX8_deep 80 = .ok (.ireturn, 1) := by decide +kernel
theorem dX8_draw_0 : decode cX8_draw 0 = .ok (.aload_n 0, 1) := by decide +kernel
theorem dX8_draw_1 : decode cX8_draw 1 = .ok (.getfield 9, 3) := by decide +kernel
theorem dX8_draw_4 : decode cX8_draw 4 = .ok (.bipush 16, 2) := by decide +kernel
theorem dX8_draw_6 : decode cX8_draw 6 = .ok (.aload_n 0, 1) := by decide +kernel
theorem dX8_draw_7 : decode cX8_draw 7 = .ok (.getfield 9, 3) := by decide +kernel
theorem dX8_draw_10 : decode cX8_draw 10 = .ok (.bipush 16, 2) := by decide +kernel
theorem dX8_draw_12 : decode cX8_draw 12 = .ok (.iaload, 1) := by decide +kernel
theorem dX8_draw_13 : decode cX8_draw 13 = .ok (.ldc 228, 2) := by decide +kernel
theorem dX8_draw_15 : decode cX8_draw 15 = .ok (.imul, 1) := by decide +kernel
theorem dX8_draw_16 : decode cX8_draw 16 = .ok (.sipush 12345, 3) := by decide +kernel
theorem dX8_draw_19 : decode cX8_draw 19 = .ok (.iadd, 1) := by decide +kernel
theorem dX8_draw_20 : decode cX8_draw 20 = .ok (.iastore, 1) := by decide +kernel
theorem dX8_draw_21 : decode cX8_draw 21 = .ok (.aload_n 0, 1) := by decide +kernel
theorem dX8_draw_22 : decode cX8_draw 22 = .ok (.getfield 9, 3) := by decide +kernel
theorem dX8_draw_25 : decode cX8_draw 25 = .ok (.bipush 16, 2) := by decide +kernel
theorem dX8_draw_27 : decode cX8_draw 27 = .ok (.iaload, 1) := by decide +kernel
theorem dX8_draw_28 : decode cX8_draw 28 = .ok (.bipush 8, 2) := by decide +kernel
theorem dX8_draw_30 : decode cX8_draw 30 = .ok (.iushr, 1) := by decide +kernel
theorem dX8_draw_31 : decode cX8_draw 31 = .ok (.ireturn, 1) := by decide +kernel
theorem dX8_dayOf_0 : decode cX8_dayOf 0 = .ok (.aload_n 0, 1) := by decide +kernel
theorem dX8_dayOf_1 : decode cX8_dayOf 1 = .ok (.invokevirtual 229, 3) := by decide +kernel
theorem dX8_dayOf_4 : decode cX8_dayOf 4 = .ok (.bipush 8, 2) := by decide +kernel
theorem dX8_dayOf_6 : decode cX8_dayOf 6 = .ok (.irem, 1) := by decide +kernel
theorem dX8_dayOf_7 : decode cX8_dayOf 7 = .ok (.istore_n 2, 1) := by decide +kernel
theorem dX8_dayOf_8 : decode cX8_dayOf 8 = .ok (.aload_n 0, 1) := by decide +kernel
theorem dX8_dayOf_9 : decode cX8_dayOf 9 = .ok (.iload_n 1, 1) := by decide +kernel
theorem dX8_dayOf_10 : decode cX8_dayOf 10 = .ok (.iload_n 2, 1) := by decide +kernel
theorem dX8_dayOf_11 : decode cX8_dayOf 11 = .ok (.invokevirtual 112, 3) := by decide +kernel
theorem dX8_dayOf_14 : decode cX8_dayOf 14 = .ok (.ifCond .eq 14, 3) := by decide +kernel
theorem dX8_dayOf_17 : decode cX8_dayOf 17 = .ok (.aload_n 0, 1) := by decide +kernel
theorem dX8_dayOf_18 : decode cX8_dayOf 18 = .ok (.iload_n 1, 1) := by decide +kernel
theorem dX8_dayOf_19 : decode cX8_dayOf 19 = .ok (.aload_n 0, 1) := by decide +kernel
theorem dX8_dayOf_20 : decode cX8_dayOf 20 = .ok (.iload_n 1, 1) := by decide +kernel
theorem dX8_dayOf_21 : decode cX8_dayOf 21 = .ok (.invokevirtual 115, 3) := by decide +kernel
theorem dX8_dayOf_24 : decode cX8_dayOf 24 = .ok (.iload_n 2, 1) := by decide +kernel
theorem dX8_dayOf_25 : decode cX8_dayOf 25 = .ok (.invokevirtual 118, 3) := by decide +kernel
theorem dX8_dayOf_28 : decode cX8_dayOf 28 = .ok (.aload_n 0, 1) := by decide +kernel
theorem dX8_dayOf_29 : decode cX8_dayOf 29 = .ok (.getfield 9, 3) := by decide +kernel
theorem dX8_dayOf_32 : decode cX8_dayOf 32 = .ok (.bipush 11, 2) := by decide +kernel
theorem dX8_dayOf_34 : decode cX8_dayOf 34 = .ok (.iaload, 1) := by decide +kernel
theorem dX8_dayOf_35 : decode cX8_dayOf 35 = .ok (.ifCond .eq 11, 3) := by decide +kernel
theorem dX8_dayOf_38 : decode cX8_dayOf 38 = .ok (.aload_n 0, 1) := by decide +kernel
theorem dX8_dayOf_39 : decode cX8_dayOf 39 = .ok (.iload_n 1, 1) := by decide +kernel
theorem dX8_dayOf_40 : decode cX8_dayOf 40 = .ok (.invokevirtual 121, 3) := by decide +kernel
theorem dX8_dayOf_43 : decode cX8_dayOf 43 = .ok (.ifCond .ne 4, 3) := by decide +kernel
theorem dX8_dayOf_46 : decode cX8_dayOf 46 = .ok (.return_, 1) := by decide +kernel
theorem dX8_dayOf_47 : decode cX8_dayOf 47 = .ok (.aload_n 0, 1) := by decide +kernel
theorem dX8_dayOf_48 : decode cX8_dayOf 48 = .ok (.invokevirtual 229, 3) := by decide +kernel
theorem dX8_dayOf_51 : decode cX8_dayOf 51 = .ok (.aload_n 0, 1) := by decide +kernel
theorem dX8_dayOf_52 : decode cX8_dayOf 52 = .ok (.getfield 9, 3) := by decide +kernel
theorem dX8_dayOf_55 : decode cX8_dayOf 55 = .ok (.bipush 11, 2) := by decide +kernel
theorem dX8_dayOf_57 : decode cX8_dayOf 57 = .ok (.iaload, 1) := by decide +kernel
theorem dX8_dayOf_58 : decode cX8_dayOf 58 = .ok (.irem, 1) := by decide +kernel
theorem dX8_dayOf_59 : decode cX8_dayOf 59 = .ok (.istore_n 3, 1) := by decide +kernel
theorem dX8_dayOf_60 : decode cX8_dayOf 60 = .ok (.aload_n 0, 1) := by decide +kernel
theorem dX8_dayOf_61 : decode cX8_dayOf 61 = .ok (.invokevirtual 229, 3) := by decide +kernel
theorem dX8_dayOf_64 : decode cX8_dayOf 64 = .ok (.bipush 8, 2) := by decide +kernel
theorem dX8_dayOf_66 : decode cX8_dayOf 66 = .ok (.irem, 1) := by decide +kernel
theorem dX8_dayOf_67 : decode cX8_dayOf 67 = .ok (.istore 4, 2) := by decide +kernel
theorem dX8_dayOf_69 : decode cX8_dayOf 69 = .ok (.aload_n 0, 1) := by decide +kernel
theorem dX8_dayOf_70 : decode cX8_dayOf 70 = .ok (.invokevirtual 229, 3) := by decide +kernel
theorem dX8_dayOf_73 : decode cX8_dayOf 73 = .ok (.bipush 100, 2) := by decide +kernel
theorem dX8_dayOf_75 : decode cX8_dayOf 75 = .ok (.irem, 1) := by decide +kernel
theorem dX8_dayOf_76 : decode cX8_dayOf 76 = .ok (.aload_n 0, 1) := by decide +kernel
theorem dX8_dayOf_77 : decode cX8_dayOf 77 = .ok (.getfield 9, 3) := by decide +kernel
theorem dX8_dayOf_80 : decode cX8_dayOf 80 = .ok (.bipush 10, 2) := by decide +kernel
theorem dX8_dayOf_82 : decode cX8_dayOf 82 = .ok (.iaload, 1) := by decide +kernel
theorem dX8_dayOf_83 : decode cX8_dayOf 83 = .ok (.if_icmp .ge 13, 3) := by decide +kernel
theorem dX8_dayOf_86 : decode cX8_dayOf 86 = .ok (.iload 4, 2) := by decide +kernel
theorem dX8_dayOf_88 : decode cX8_dayOf 88 = .ok (.iconst 1, 1) := by decide +kernel
theorem dX8_dayOf_89 : decode cX8_dayOf 89 = .ok (.iadd, 1) := by decide +kernel
theorem dX8_dayOf_90 : decode cX8_dayOf 90 = .ok (.bipush 8, 2) := by decide +kernel
theorem dX8_dayOf_92 : decode cX8_dayOf 92 = .ok (.irem, 1) := by decide +kernel
theorem dX8_dayOf_93 : decode cX8_dayOf 93 = .ok (.goto 5, 3) := by decide +kernel
theorem dX8_dayOf_96 : decode cX8_dayOf 96 = .ok (.iload 4, 2) := by decide +kernel
theorem dX8_dayOf_98 : decode cX8_dayOf 98 = .ok (.istore 4, 2) := by decide +kernel
theorem dX8_dayOf_100 : decode cX8_dayOf 100 = .ok (.aload_n 0, 1) := by decide +kernel
theorem dX8_dayOf_101 : decode cX8_dayOf 101 = .ok (.iload_n 1, 1) := by decide +kernel
theorem dX8_dayOf_102 : decode cX8_dayOf 102 = .ok (.iload_n 3, 1) := by decide +kernel
theorem dX8_dayOf_103 : decode cX8_dayOf 103 = .ok (.iload 4, 2) := by decide +kernel
theorem dX8_dayOf_105 : decode cX8_dayOf 105 = .ok (.invokevirtual 140, 3) := by decide +kernel
theorem dX8_dayOf_108 : decode cX8_dayOf 108 = .ok (.ifCond .eq 20, 3) := by decide +kernel
theorem dX8_dayOf_111 : decode cX8_dayOf 111 = .ok (.aload_n 0, 1) := by decide +kernel
theorem dX8_dayOf_112 : decode cX8_dayOf 112 = .ok (.iload_n 1, 1) := by decide +kernel
theorem dX8_dayOf_113 : decode cX8_dayOf 113 = .ok (.iload_n 3, 1) := by decide +kernel
theorem dX8_dayOf_114 : decode cX8_dayOf 114 = .ok (.iload 4, 2) := by decide +kernel
theorem dX8_dayOf_116 : decode cX8_dayOf 116 = .ok (.aload_n 0, 1) := by decide +kernel
theorem dX8_dayOf_117 : decode cX8_dayOf 117 = .ok (.iload 4, 2) := by decide +kernel
theorem dX8_dayOf_119 : decode cX8_dayOf 119 = .ok (.iconst (-1), 1) := by decide +kernel
theorem dX8_dayOf_120 : decode cX8_dayOf 120 = .ok (.invokevirtual 133, 3) := by decide +kernel
theorem dX8_dayOf_123 : decode cX8_dayOf 123 = .ok (.invokevirtual 136, 3) := by decide +kernel
theorem dX8_dayOf_126 : decode cX8_dayOf 126 = .ok (.istore 5, 2) := by decide +kernel
theorem dX8_dayOf_128 : decode cX8_dayOf 128 = .ok (.return_, 1) := by decide +kernel
theorem dX8_aDay_0 : decode cX8_aDay 0 = .ok (.iconst 0, 1) := by decide +kernel
theorem dX8_aDay_1 : decode cX8_aDay 1 = .ok (.istore_n 1, 1) := by decide +kernel
theorem dX8_aDay_2 : decode cX8_aDay 2 = .ok (.iload_n 1, 1) := by decide +kernel
theorem dX8_aDay_3 : decode cX8_aDay 3 = .ok (.aload_n 0, 1) := by decide +kernel
theorem dX8_aDay_4 : decode cX8_aDay 4 = .ok (.getfield 9, 3) := by decide +kernel
theorem dX8_aDay_7 : decode cX8_aDay 7 = .ok (.bipush 12, 2) := by decide +kernel
theorem dX8_aDay_9 : decode cX8_aDay 9 = .ok (.iaload, 1) := by decide +kernel
theorem dX8_aDay_10 : decode cX8_aDay 10 = .ok (.if_icmp .ge 14, 3) := by decide +kernel
theorem dX8_aDay_13 : decode cX8_aDay 13 = .ok (.aload_n 0, 1) := by decide +kernel
theorem dX8_aDay_14 : decode cX8_aDay 14 = .ok (.iload_n 1, 1) := by decide +kernel
theorem dX8_aDay_15 : decode cX8_aDay 15 = .ok (.invokevirtual 233, 3) := by decide +kernel
theorem dX8_aDay_18 : decode cX8_aDay 18 = .ok (.iinc 1 1, 3) := by decide +kernel
theorem dX8_aDay_21 : decode cX8_aDay 21 = .ok (.goto (-19), 3) := by decide +kernel
theorem dX8_aDay_24 : decode cX8_aDay 24 = .ok (.aload_n 0, 1) := by decide +kernel
theorem dX8_aDay_25 : decode cX8_aDay 25 = .ok (.getfield 9, 3) := by decide +kernel
theorem dX8_aDay_28 : decode cX8_aDay 28 = .ok (.bipush 15, 2) := by decide +kernel
theorem dX8_aDay_30 : decode cX8_aDay 30 = .ok (.dup2, 1) := by decide +kernel
theorem dX8_aDay_31 : decode cX8_aDay 31 = .ok (.iaload, 1) := by decide +kernel
theorem dX8_aDay_32 : decode cX8_aDay 32 = .ok (.iconst 1, 1) := by decide +kernel
theorem dX8_aDay_33 : decode cX8_aDay 33 = .ok (.iadd, 1) := by decide +kernel
theorem dX8_aDay_34 : decode cX8_aDay 34 = .ok (.iastore, 1) := by decide +kernel
theorem dX8_aDay_35 : decode cX8_aDay 35 = .ok (.return_, 1) := by decide +kernel
theorem dX8_daysGo_0 : decode cX8_daysGo 0 = .ok (.aload_n 0, 1) := by decide +kernel
theorem dX8_daysGo_1 : decode cX8_daysGo 1 = .ok (.getfield 9, 3) := by decide +kernel
theorem dX8_daysGo_4 : decode cX8_daysGo 4 = .ok (.bipush 14, 2) := by decide +kernel
theorem dX8_daysGo_6 : decode cX8_daysGo 6 = .ok (.iaload, 1) := by decide +kernel
theorem dX8_daysGo_7 : decode cX8_daysGo 7 = .ok (.istore_n 2, 1) := by decide +kernel
theorem dX8_daysGo_8 : decode cX8_daysGo 8 = .ok (.iconst 0, 1) := by decide +kernel
theorem dX8_daysGo_9 : decode cX8_daysGo 9 = .ok (.istore_n 3, 1) := by decide +kernel
theorem dX8_daysGo_10 : decode cX8_daysGo 10 = .ok (.iload_n 3, 1) := by decide +kernel
theorem dX8_daysGo_11 : decode cX8_daysGo 11 = .ok (.iload_n 1, 1) := by decide +kernel
theorem dX8_daysGo_12 : decode cX8_daysGo 12 = .ok (.if_icmp .ge 13, 3) := by decide +kernel
theorem dX8_daysGo_15 : decode cX8_daysGo 15 = .ok (.aload_n 0, 1) := by decide +kernel
theorem dX8_daysGo_16 : decode cX8_daysGo 16 = .ok (.invokevirtual 237, 3) := by decide +kernel
theorem dX8_daysGo_19 : decode cX8_daysGo 19 = .ok (.iinc 3 1, 3) := by decide +kernel
theorem dX8_daysGo_22 : decode cX8_daysGo 22 = .ok (.goto (-12), 3) := by decide +kernel
theorem dX8_daysGo_25 : decode cX8_daysGo 25 = .ok (.aload_n 0, 1) := by decide +kernel
theorem dX8_daysGo_26 : decode cX8_daysGo 26 = .ok (.getfield 9, 3) := by decide +kernel
theorem dX8_daysGo_29 : decode cX8_daysGo 29 = .ok (.bipush 14, 2) := by decide +kernel
theorem dX8_daysGo_31 : decode cX8_daysGo 31 = .ok (.iaload, 1) := by decide +kernel
theorem dX8_daysGo_32 : decode cX8_daysGo 32 = .ok (.iload_n 2, 1) := by decide +kernel
theorem dX8_daysGo_33 : decode cX8_daysGo 33 = .ok (.isub, 1) := by decide +kernel
theorem dX8_daysGo_34 : decode cX8_daysGo 34 = .ok (.ireturn, 1) := by decide +kernel
theorem dX8_days_0 : decode cX8_days 0 = .ok (.iload_n 1, 1) := by decide +kernel
theorem dX8_days_1 : decode cX8_days 1 = .ok (.i2l, 1) := by decide +kernel
theorem dX8_days_2 : decode cX8_days 2 = .ok (.lconst 1, 1) := by decide +kernel
theorem dX8_days_3 : decode cX8_days 3 = .ok (.ldc2_w 97, 3) := by decide +kernel
theorem dX8_days_6 : decode cX8_days 6 = .ok (.invokestatic 54, 3) := by decide +kernel
theorem dX8_days_9 : decode cX8_days 9 = .ok (.ifCond .ne 9, 3) := by decide +kernel
theorem dX8_days_12 : decode cX8_days 12 = .ok (.aload_n 0, 1) := by decide +kernel
theorem dX8_days_13 : decode cX8_days 13 = .ok (.iconst 0, 1) := by decide +kernel
theorem dX8_days_14 : decode cX8_days 14 = .ok (.invokevirtual 74, 3) := by decide +kernel
theorem dX8_days_17 : decode cX8_days 17 = .ok (.ireturn, 1) := by decide +kernel
theorem dX8_days_18 : decode cX8_days 18 = .ok (.aload_n 0, 1) := by decide +kernel
theorem dX8_days_19 : decode cX8_days 19 = .ok (.getfield 9, 3) := by decide +kernel
theorem dX8_days_22 : decode cX8_days 22 = .ok (.bipush 15, 2) := by decide +kernel
theorem dX8_days_24 : decode cX8_days 24 = .ok (.iaload, 1) := by decide +kernel
theorem dX8_days_25 : decode cX8_days 25 = .ok (.iload_n 1, 1) := by decide +kernel
theorem dX8_days_26 : decode cX8_days 26 = .ok (.iadd, 1) := by decide +kernel
theorem dX8_days_27 : decode cX8_days 27 = .ok (.sipush 9999, 3) := by decide +kernel
theorem dX8_days_30 : decode cX8_days 30 = .ok (.if_icmp .le 11, 3) := by decide +kernel
theorem dX8_days_33 : decode cX8_days 33 = .ok (.aload_n 0, 1) := by decide +kernel
theorem dX8_days_34 : decode cX8_days 34 = .ok (.iconst 4, 1) := by decide +kernel
theorem dX8_days_35 : decode cX8_days 35 = .ok (.invokevirtual 74, 3) := by decide +kernel
theorem dX8_days_38 : decode cX8_days 38 = .ok (.goto 8, 3) := by decide +kernel
theorem dX8_days_41 : decode cX8_days 41 = .ok (.aload_n 0, 1) := by decide +kernel
theorem dX8_days_42 : decode cX8_days 42 = .ok (.iload_n 1, 1) := by decide +kernel
theorem dX8_days_43 : decode cX8_days 43 = .ok (.invokevirtual 240, 3) := by decide +kernel
theorem dX8_days_46 : decode cX8_days 46 = .ok (.ireturn, 1) := by decide +kernel
theorem dX8_ahead_0 : decode cX8_ahead 0 = .ok (.iload_n 1, 1) := by decide +kernel
theorem dX8_ahead_1 : decode cX8_ahead 1 = .ok (.i2l, 1) := by decide +kernel
theorem dX8_ahead_2 : decode cX8_ahead 2 = .ok (.lconst 0, 1) := by decide +kernel
theorem dX8_ahead_3 : decode cX8_ahead 3 = .ok (.ldc2_w 97, 3) := by decide +kernel
theorem dX8_ahead_6 : decode cX8_ahead 6 = .ok (.invokestatic 54, 3) := by decide +kernel
theorem dX8_ahead_9 : decode cX8_ahead 9 = .ok (.ifCond .eq 17, 3) := by decide +kernel
theorem dX8_ahead_12 : decode cX8_ahead 12 = .ok (.iload_n 2, 1) := by decide +kernel
theorem dX8_ahead_13 : decode cX8_ahead 13 = .ok (.ifCond .eq 19, 3) := by decide +kernel
theorem dX8_ahead_16 : decode cX8_ahead 16 = .ok (.aload_n 0, 1) := by decide +kernel
theorem dX8_ahead_17 : decode cX8_ahead 17 = .ok (.iload_n 2, 1) := by decide +kernel
theorem dX8_ahead_18 : decode cX8_ahead 18 = .ok (.iconst 1, 1) := by decide +kernel
theorem dX8_ahead_19 : decode cX8_ahead 19 = .ok (.isub, 1) := by decide +kernel
theorem dX8_ahead_20 : decode cX8_ahead 20 = .ok (.invokevirtual 90, 3) := by decide +kernel
theorem dX8_ahead_23 : decode cX8_ahead 23 = .ok (.ifCond .ne 9, 3) := by decide +kernel
theorem dX8_ahead_26 : decode cX8_ahead 26 = .ok (.aload_n 0, 1) := by decide +kernel
theorem dX8_ahead_27 : decode cX8_ahead 27 = .ok (.iconst 0, 1) := by decide +kernel
theorem dX8_ahead_28 : decode cX8_ahead 28 = .ok (.invokevirtual 74, 3) := by decide +kernel
theorem dX8_ahead_31 : decode cX8_ahead 31 = .ok (.ireturn, 1) := by decide +kernel
theorem dX8_ahead_32 : decode cX8_ahead 32 = .ok (.aload_n 0, 1) := by decide +kernel
theorem dX8_ahead_33 : decode cX8_ahead 33 = .ok (.getfield 9, 3) := by decide +kernel
theorem dX8_ahead_36 : decode cX8_ahead 36 = .ok (.bipush 15, 2) := by decide +kernel
theorem dX8_ahead_38 : decode cX8_ahead 38 = .ok (.iaload, 1) := by decide +kernel
theorem dX8_ahead_39 : decode cX8_ahead 39 = .ok (.iload_n 1, 1) := by decide +kernel
theorem dX8_ahead_40 : decode cX8_ahead 40 = .ok (.iadd, 1) := by decide +kernel
theorem dX8_ahead_41 : decode cX8_ahead 41 = .ok (.sipush 9999, 3) := by decide +kernel
theorem dX8_ahead_44 : decode cX8_ahead 44 = .ok (.if_icmp .le 9, 3) := by decide +kernel
theorem dX8_ahead_47 : decode cX8_ahead 47 = .ok (.aload_n 0, 1) := by decide +kernel
theorem dX8_ahead_48 : decode cX8_ahead 48 = .ok (.iconst 4, 1) := by decide +kernel
theorem dX8_ahead_49 : decode cX8_ahead 49 = .ok (.invokevirtual 74, 3) := by decide +kernel
theorem dX8_ahead_52 : decode cX8_ahead 52 = .ok (.ireturn, 1) := by decide +kernel
theorem dX8_ahead_53 : decode cX8_ahead 53 = .ok (.aload_n 0, 1) := by decide +kernel
theorem dX8_ahead_54 : decode cX8_ahead 54 = .ok (.invokevirtual 196, 3) := by decide +kernel
theorem dX8_ahead_57 : decode cX8_ahead 57 = .ok (.aload_n 0, 1) := by decide +kernel
theorem dX8_ahead_58 : decode cX8_ahead 58 = .ok (.iload_n 1, 1) := by decide +kernel
theorem dX8_ahead_59 : decode cX8_ahead 59 = .ok (.invokevirtual 240, 3) := by decide +kernel
theorem dX8_ahead_62 : decode cX8_ahead 62 = .ok (.istore_n 3, 1) := by decide +kernel
theorem dX8_ahead_63 : decode cX8_ahead 63 = .ok (.iload_n 2, 1) := by decide +kernel
theorem dX8_ahead_64 : decode cX8_ahead 64 = .ok (.ifCond .ne 7, 3) := by decide +kernel
theorem dX8_ahead_67 : decode cX8_ahead 67 = .ok (.iload_n 3, 1) := by decide +kernel
theorem dX8_ahead_68 : decode cX8_ahead 68 = .ok (.goto 14, 3) := by decide +kernel
theorem dX8_ahead_71 : decode cX8_ahead 71 = .ok (.aload_n 0, 1) := by decide +kernel
theorem dX8_ahead_72 : decode cX8_ahead 72 = .ok (.getfield 9, 3) := by decide +kernel
theorem dX8_ahead_75 : decode cX8_ahead 75 = .ok (.bipush 36, 2) := by decide +kernel
theorem dX8_ahead_77 : decode cX8_ahead 77 = .ok (.iload_n 2, 1) := by decide +kernel
theorem dX8_ahead_78 : decode cX8_ahead 78 = .ok (.iadd, 1) := by decide +kernel
theorem dX8_ahead_79 : decode cX8_ahead 79 = .ok (.iconst 1, 1) := by decide +kernel
theorem dX8_ahead_80 : decode cX8_ahead 80 = .ok (.isub, 1) := by decide +kernel
theorem dX8_ahead_81 : decode cX8_ahead 81 = .ok (.iaload, 1) := by decide +kernel
theorem dX8_ahead_82 : decode cX8_ahead 82 = .ok (.istore 4, 2) := by decide +kernel
theorem dX8_ahead_84 : decode cX8_ahead 84 = .ok (.aload_n 0, 1) := by decide +kernel
theorem dX8_ahead_85 : decode cX8_ahead 85 = .ok (.invokevirtual 202, 3) := by decide +kernel
theorem dX8_ahead_88 : decode cX8_ahead 88 = .ok (.iload 4, 2) := by decide +kernel
theorem dX8_ahead_90 : decode cX8_ahead 90 = .ok (.ireturn, 1) := by decide +kernel
theorem dX8_when_0 : decode cX8_when 0 = .ok (.aload_n 0, 1) := by decide +kernel
theorem dX8_when_1 : decode cX8_when 1 = .ok (.iload_n 1, 1) := by decide +kernel
theorem dX8_when_2 : decode cX8_when 2 = .ok (.invokevirtual 90, 3) := by decide +kernel
theorem dX8_when_5 : decode cX8_when 5 = .ok (.ifCond .eq 10, 3) := by decide +kernel
theorem dX8_when_8 : decode cX8_when 8 = .ok (.iload_n 2, 1) := by decide +kernel
theorem dX8_when_9 : decode cX8_when 9 = .ok (.invokestatic 70, 3) := by decide +kernel
theorem dX8_when_12 : decode cX8_when 12 = .ok (.ifCond .ne 9, 3) := by decide +kernel
theorem dX8_when_15 : decode cX8_when 15 = .ok (.aload_n 0, 1) := by decide +kernel
theorem dX8_when_16 : decode cX8_when 16 = .ok (.iconst 0, 1) := by decide +kernel
theorem dX8_when_17 : decode cX8_when 17 = .ok (.invokevirtual 74, 3) := by decide +kernel
theorem dX8_when_20 : decode cX8_when 20 = .ok (.ireturn, 1) := by decide +kernel
theorem dX8_when_21 : decode cX8_when 21 = .ok (.aload_n 0, 1) := by decide +kernel
theorem dX8_when_22 : decode cX8_when 22 = .ok (.getfield 9, 3) := by decide +kernel
theorem dX8_when_25 : decode cX8_when 25 = .ok (.bipush 15, 2) := by decide +kernel
theorem dX8_when_27 : decode cX8_when 27 = .ok (.iaload, 1) := by decide +kernel
theorem dX8_when_28 : decode cX8_when 28 = .ok (.sipush 9939, 3) := by decide +kernel
theorem dX8_when_31 : decode cX8_when 31 = .ok (.if_icmp .le 9, 3) := by decide +kernel
theorem dX8_when_34 : decode cX8_when 34 = .ok (.aload_n 0, 1) := by decide +kernel
theorem dX8_when_35 : decode cX8_when 35 = .ok (.iconst 4, 1) := by decide +kernel
theorem dX8_when_36 : decode cX8_when 36 = .ok (.invokevirtual 74, 3) := by decide +kernel
theorem dX8_when_39 : decode cX8_when 39 = .ok (.ireturn, 1) := by decide +kernel
theorem dX8_when_40 : decode cX8_when 40 = .ok (.aload_n 0, 1) := by decide +kernel
theorem dX8_when_41 : decode cX8_when 41 = .ok (.invokevirtual 196, 3) := by decide +kernel
theorem dX8_when_44 : decode cX8_when 44 = .ok (.iconst 0, 1) := by decide +kernel
theorem dX8_when_45 : decode cX8_when 45 = .ok (.istore_n 3, 1) := by decide +kernel
theorem dX8_when_46 : decode cX8_when 46 = .ok (.iload_n 3, 1) := by decide +kernel
theorem dX8_when_47 : decode cX8_when 47 = .ok (.bipush 60, 2) := by decide +kernel
theorem dX8_when_49 : decode cX8_when 49 = .ok (.if_icmp .gt 26, 3) := by decide +kernel
theorem dX8_when_52 : decode cX8_when 52 = .ok (.aload_n 0, 1) := by decide +kernel
theorem dX8_when_53 : decode cX8_when 53 = .ok (.getfield 9, 3) := by decide +kernel
theorem dX8_when_56 : decode cX8_when 56 = .ok (.bipush 36, 2) := by decide +kernel
theorem dX8_when_58 : decode cX8_when 58 = .ok (.iload_n 1, 1) := by decide +kernel
theorem dX8_when_59 : decode cX8_when 59 = .ok (.iadd, 1) := by decide +kernel
theorem dX8_when_60 : decode cX8_when 60 = .ok (.iaload, 1) := by decide +kernel
theorem dX8_when_61 : decode cX8_when 61 = .ok (.iload_n 2, 1) := by decide +kernel
theorem dX8_when_62 : decode cX8_when 62 = .ok (.if_icmp .eq 13, 3) := by decide +kernel
theorem dX8_when_65 : decode cX8_when 65 = .ok (.aload_n 0, 1) := by decide +kernel
theorem dX8_when_66 : decode cX8_when 66 = .ok (.invokevirtual 237, 3) := by decide +kernel
theorem dX8_when_69 : decode cX8_when 69 = .ok (.iinc 3 1, 3) := by decide +kernel
theorem dX8_when_72 : decode cX8_when 72 = .ok (.goto (-26), 3) := by decide +kernel
theorem dX8_when_75 : decode cX8_when 75 = .ok (.aload_n 0, 1) := by decide +kernel
theorem dX8_when_76 : decode cX8_when 76 = .ok (.invokevirtual 202, 3) := by decide +kernel
theorem dX8_when_79 : decode cX8_when 79 = .ok (.iload_n 3, 1) := by decide +kernel
theorem dX8_when_80 : decode cX8_when 80 = .ok (.bipush 60, 2) := by decide +kernel
theorem dX8_when_82 : decode cX8_when 82 = .ok (.if_icmp .gt 7, 3) := by decide +kernel
theorem dX8_when_85 : decode cX8_when 85 = .ok (.iload_n 3, 1) := by decide +kernel
theorem dX8_when_86 : decode cX8_when 86 = .ok (.goto 8, 3) := by decide +kernel
theorem dX8_when_89 : decode cX8_when 89 = .ok (.aload_n 0, 1) := by decide +kernel
theorem dX8_when_90 : decode cX8_when 90 = .ok (.iconst 3, 1) := by decide +kernel
theorem dX8_when_91 : decode cX8_when 91 = .ok (.invokevirtual 74, 3) := by decide +kernel
theorem dX8_when_94 : decode cX8_when 94 = .ok (.ireturn, 1) := by decide +kernel
theorem dX8_seed_0 : decode cX8_seed 0 = .ok (.aload_n 0, 1) := by decide +kernel
theorem dX8_seed_1 : decode cX8_seed 1 = .ok (.getfield 9, 3) := by decide +kernel
theorem dX8_seed_4 : decode cX8_seed 4 = .ok (.bipush 16, 2) := by decide +kernel
theorem dX8_seed_6 : decode cX8_seed 6 = .ok (.iaload, 1) := by decide +kernel
theorem dX8_seed_7 : decode cX8_seed 7 = .ok (.istore_n 2, 1) := by decide +kernel
theorem dX8_seed_8 : decode cX8_seed 8 = .ok (.aload_n 0, 1) := by decide +kernel
theorem dX8_seed_9 : decode cX8_seed 9 = .ok (.getfield 9, 3) := by decide +kernel
theorem dX8_seed_12 : decode cX8_seed 12 = .ok (.bipush 16, 2) := by decide +kernel
theorem dX8_seed_14 : decode cX8_seed 14 = .ok (.iload_n 1, 1) := by decide +kernel
theorem dX8_seed_15 : decode cX8_seed 15 = .ok (.iastore, 1) := by decide +kernel
theorem dX8_seed_16 : decode cX8_seed 16 = .ok (.iload_n 2, 1) := by decide +kernel
theorem dX8_seed_17 : decode cX8_seed 17 = .ok (.ireturn, 1) := by decide +kernel
theorem dX8_feed_0 : decode cX8_feed 0 = .ok (.iload_n 2, 1) := by decide +kernel
theorem dX8_feed_1 : decode cX8_feed 1 = .ok (.i2l, 1) := by decide +kernel
theorem dX8_feed_2 : decode cX8_feed 2 = .ok (.lconst 1, 1) := by decide +kernel
theorem dX8_feed_3 : decode cX8_feed 3 = .ok (.ldc2_w 143, 3) := by decide +kernel
theorem dX8_feed_6 : decode cX8_feed 6 = .ok (.invokestatic 54, 3) := by decide +kernel
theorem dX8_feed_9 : decode cX8_feed 9 = .ok (.ifCond .ne 9, 3) := by decide +kernel
theorem dX8_feed_12 : decode cX8_feed 12 = .ok (.aload_n 0, 1) := by decide +kernel
theorem dX8_feed_13 : decode cX8_feed 13 = .ok (.iconst 0, 1) := by decide +kernel
theorem dX8_feed_14 : decode cX8_feed 14 = .ok (.invokevirtual 74, 3) := by decide +kernel
theorem dX8_feed_17 : decode cX8_feed 17 = .ok (.ireturn, 1) := by decide +kernel
theorem dX8_feed_18 : decode cX8_feed 18 = .ok (.aload_n 0, 1) := by decide +kernel
theorem dX8_feed_19 : decode cX8_feed 19 = .ok (.getfield 243, 3) := by decide +kernel
theorem dX8_feed_22 : decode cX8_feed 22 = .ok (.iload_n 2, 1) := by decide +kernel
theorem dX8_feed_23 : decode cX8_feed 23 = .ok (.iadd, 1) := by decide +kernel
theorem dX8_feed_24 : decode cX8_feed 24 = .ok (.bipush 120, 2) := by decide +kernel
theorem dX8_feed_26 : decode cX8_feed 26 = .ok (.if_icmp .le 9, 3) := by decide +kernel
theorem dX8_feed_29 : decode cX8_feed 29 = .ok (.aload_n 0, 1) := by decide +kernel
theorem dX8_feed_30 : decode cX8_feed 30 = .ok (.iconst 1, 1) := by decide +kernel
theorem dX8_feed_31 : decode cX8_feed 31 = .ok (.invokevirtual 74, 3) := by decide +kernel
theorem dX8_feed_34 : decode cX8_feed 34 = .ok (.ireturn, 1) := by decide +kernel
theorem dX8_feed_35 : decode cX8_feed 35 = .ok (.bipush 8, 2) := by decide +kernel
theorem dX8_feed_37 : decode cX8_feed 37 = .ok (.iload_n 2, 1) := by decide +kernel
theorem dX8_feed_38 : decode cX8_feed 38 = .ok (.imul, 1) := by decide +kernel
theorem dX8_feed_39 : decode cX8_feed 39 = .ok (.bipush 8, 2) := by decide +kernel
theorem dX8_feed_41 : decode cX8_feed 41 = .ok (.isub, 1) := by decide +kernel
theorem dX8_feed_42 : decode cX8_feed 42 = .ok (.istore_n 3, 1) := by decide +kernel
theorem dX8_feed_43 : decode cX8_feed 43 = .ok (.iload_n 3, 1) := by decide +kernel
theorem dX8_feed_44 : decode cX8_feed 44 = .ok (.ifCond .lt 35, 3) := by decide +kernel
theorem dX8_feed_47 : decode cX8_feed 47 = .ok (.aload_n 0, 1) := by decide +kernel
theorem dX8_feed_48 : decode cX8_feed 48 = .ok (.getfield 19, 3) := by decide +kernel
theorem dX8_feed_51 : decode cX8_feed 51 = .ok (.aload_n 0, 1) := by decide +kernel
theorem dX8_feed_52 : decode cX8_feed 52 = .ok (.getfield 243, 3) := by decide +kernel
theorem dX8_feed_55 : decode cX8_feed 55 = .ok (.iload_n 1, 1) := by decide +kernel
theorem dX8_feed_56 : decode cX8_feed 56 = .ok (.iload_n 3, 1) := by decide +kernel
theorem dX8_feed_57 : decode cX8_feed 57 = .ok (.ishr, 1) := by decide +kernel
theorem dX8_feed_58 : decode cX8_feed 58 = .ok (.sipush 255, 3) := by decide +kernel
theorem dX8_feed_61 : decode cX8_feed 61 = .ok (.iand, 1) := by decide +kernel
theorem dX8_feed_62 : decode cX8_feed 62 = .ok (.iastore, 1) := by decide +kernel
theorem dX8_feed_63 : decode cX8_feed 63 = .ok (.aload_n 0, 1) := by decide +kernel
theorem dX8_feed_64 : decode cX8_feed 64 = .ok (.dup, 1) := by decide +kernel
theorem dX8_feed_65 : decode cX8_feed 65 = .ok (.getfield 243, 3) := by decide +kernel
theorem dX8_feed_68 : decode cX8_feed 68 = .ok (.iconst 1, 1) := by decide +kernel
theorem dX8_feed_69 : decode cX8_feed 69 = .ok (.iadd, 1) := by decide +kernel
theorem dX8_feed_70 : decode cX8_feed 70 = .ok (.putfield 243, 3) := by decide +kernel
theorem dX8_feed_73 : decode cX8_feed 73 = .ok (.iinc 3 (-8), 3) := by decide +kernel
theorem dX8_feed_76 : decode cX8_feed 76 = .ok (.goto (-33), 3) := by decide +kernel
theorem dX8_feed_79 : decode cX8_feed 79 = .ok (.aload_n 0, 1) := by decide +kernel
theorem dX8_feed_80 : decode cX8_feed 80 = .ok (.getfield 243, 3) := by decide +kernel
theorem dX8_feed_83 : decode cX8_feed 83 = .ok (.ireturn, 1) := by decide +kernel
theorem dX8_wipe_0 : decode cX8_wipe 0 = .ok (.aload_n 0, 1) := by decide +kernel
theorem dX8_wipe_1 : decode cX8_wipe 1 = .ok (.getfield 243, 3) := by decide +kernel
theorem dX8_wipe_4 : decode cX8_wipe 4 = .ok (.istore_n 1, 1) := by decide +kernel
theorem dX8_wipe_5 : decode cX8_wipe 5 = .ok (.aload_n 0, 1) := by decide +kernel
theorem dX8_wipe_6 : decode cX8_wipe 6 = .ok (.iconst 0, 1) := by decide +kernel
theorem dX8_wipe_7 : decode cX8_wipe 7 = .ok (.putfield 243, 3) := by decide +kernel
theorem dX8_wipe_10 : decode cX8_wipe 10 = .ok (.iload_n 1, 1) := by decide +kernel
theorem dX8_wipe_11 : decode cX8_wipe 11 = .ok (.ireturn, 1) := by decide +kernel
theorem dX8_isByte_0 : decode cX8_isByte 0 = .ok (.iload_n 1, 1) := by decide +kernel
theorem dX8_isByte_1 : decode cX8_isByte 1 = .ok (.aload_n 0, 1) := by decide +kernel
theorem dX8_isByte_2 : decode cX8_isByte 2 = .ok (.getfield 243, 3) := by decide +kernel
theorem dX8_isByte_5 : decode cX8_isByte 5 = .ok (.if_icmp .ge 24, 3) := by decide +kernel
theorem dX8_isByte_8 : decode cX8_isByte 8 = .ok (.aload_n 0, 1) := by decide +kernel
theorem dX8_isByte_9 : decode cX8_isByte 9 = .ok (.getfield 19, 3) := by decide +kernel
theorem dX8_isByte_12 : decode cX8_isByte 12 = .ok (.iload_n 1, 1) := by decide +kernel
theorem dX8_isByte_13 : decode cX8_isByte 13 = .ok (.iaload, 1) := by decide +kernel
theorem dX8_isByte_14 : decode cX8_isByte 14 = .ok (.i2l, 1) := by decide +kernel
theorem dX8_isByte_15 : decode cX8_isByte 15 = .ok (.iload_n 2, 1) := by decide +kernel
theorem dX8_isByte_16 : decode cX8_isByte 16 = .ok (.i2l, 1) := by decide +kernel
theorem dX8_isByte_17 : decode cX8_isByte 17 = .ok (.iload_n 3, 1) := by decide +kernel
theorem dX8_isByte_18 : decode cX8_isByte 18 = .ok (.i2l, 1) := by decide +kernel
theorem dX8_isByte_19 : decode cX8_isByte 19 = .ok (.invokestatic 54, 3) := by decide +kernel
theorem dX8_isByte_22 : decode cX8_isByte 22 = .ok (.ifCond .eq 7, 3) := by decide +kernel
theorem dX8_isByte_25 : decode cX8_isByte 25 = .ok (.iconst 1, 1) := by decide +kernel
theorem dX8_isByte_26 : decode cX8_isByte 26 = .ok (.goto 4, 3) := by decide +kernel
theorem dX8_isByte_29 : decode cX8_isByte 29 = .ok (.iconst 0, 1) := by decide +kernel
theorem dX8_isByte_30 : decode cX8_isByte 30 = .ok (.ireturn, 1) := by decide +kernel
theorem dX8_next_0 : decode cX8_next 0 = .ok (.aload_n 0, 1) := by decide +kernel
theorem dX8_next_1 : decode cX8_next 1 = .ok (.aload_n 0, 1) := by decide +kernel
theorem dX8_next_2 : decode cX8_next 2 = .ok (.getfield 246, 3) := by decide +kernel
theorem dX8_next_5 : decode cX8_next 5 = .ok (.putfield 249, 3) := by decide +kernel
theorem dX8_next_8 : decode cX8_next 8 = .ok (.aload_n 0, 1) := by decide +kernel
theorem dX8_next_9 : decode cX8_next 9 = .ok (.aload_n 0, 1) := by decide +kernel
theorem dX8_next_10 : decode cX8_next 10 = .ok (.getfield 249, 3) := by decide +kernel
theorem dX8_next_13 : decode cX8_next 13 = .ok (.bipush 32, 2) := by decide +kernel
theorem dX8_next_15 : decode cX8_next 15 = .ok (.bipush 32, 2) := by decide +kernel
theorem dX8_next_17 : decode cX8_next 17 = .ok (.invokevirtual 252, 3) := by decide +kernel
theorem dX8_next_20 : decode cX8_next 20 = .ok (.ifCond .eq 16, 3) := by decide +kernel
theorem dX8_next_23 : decode cX8_next 23 = .ok (.aload_n 0, 1) := by decide +kernel
theorem dX8_next_24 : decode cX8_next 24 = .ok (.dup, 1) := by decide +kernel
theorem dX8_next_25 : decode cX8_next 25 = .ok (.getfield 249, 3) := by decide +kernel
theorem dX8_next_28 : decode cX8_next 28 = .ok (.iconst 1, 1) := by decide +kernel
theorem dX8_next_29 : decode cX8_next 29 = .ok (.iadd, 1) := by decide +kernel
theorem dX8_next_30 : decode cX8_next 30 = .ok (.putfield 249, 3) := by decide +kernel
theorem dX8_next_33 : decode cX8_next 33 = .ok (.goto (-25), 3) := by decide +kernel
theorem dX8_next_36 : decode cX8_next 36 = .ok (.aload_n 0, 1) := by decide +kernel
theorem dX8_next_37 : decode cX8_next 37 = .ok (.aload_n 0, 1) := by decide +kernel
theorem dX8_next_38 : decode cX8_next 38 = .ok (.getfield 249, 3) := by decide +kernel
theorem dX8_next_41 : decode cX8_next 41 = .ok (.putfield 246, 3) := by decide +kernel
theorem dX8_next_44 : decode cX8_next 44 = .ok (.aload_n 0, 1) := by decide +kernel
theorem dX8_next_45 : decode cX8_next 45 = .ok (.aload_n 0, 1) := by decide +kernel
theorem dX8_next_46 : decode cX8_next 46 = .ok (.getfield 249, 3) := by decide +kernel
theorem dX8_next_49 : decode cX8_next 49 = .ok (.bipush 97, 2) := by decide +kernel
theorem dX8_next_51 : decode cX8_next 51 = .ok (.bipush 122, 2) := by decide +kernel
theorem dX8_next_53 : decode cX8_next 53 = .ok (.invokevirtual 252, 3) := by decide +kernel
theorem dX8_next_56 : decode cX8_next 56 = .ok (.istore_n 1, 1) := by decide +kernel
theorem dX8_next_57 : decode cX8_next 57 = .ok (.aload_n 0, 1) := by decide +kernel
theorem dX8_next_58 : decode cX8_next 58 = .ok (.aload_n 0, 1) := by decide +kernel
theorem dX8_next_59 : decode cX8_next 59 = .ok (.getfield 249, 3) := by decide +kernel
theorem dX8_next_62 : decode cX8_next 62 = .ok (.bipush 48, 2) := by decide +kernel
theorem dX8_next_64 : decode cX8_next 64 = .ok (.bipush 57, 2) := by decide +kernel
theorem dX8_next_66 : decode cX8_next 66 = .ok (.invokevirtual 252, 3) := by decide +kernel
theorem dX8_next_69 : decode cX8_next 69 = .ok (.istore_n 2, 1) := by decide +kernel
theorem dX8_next_70 : decode cX8_next 70 = .ok (.iload_n 1, 1) := by decide +kernel
theorem dX8_next_71 : decode cX8_next 71 = .ok (.ifCond .eq 18, 3) := by decide +kernel
theorem dX8_next_74 : decode cX8_next 74 = .ok (.aload_n 0, 1) := by decide +kernel
theorem dX8_next_75 : decode cX8_next 75 = .ok (.aload_n 0, 1) := by decide +kernel
theorem dX8_next_76 : decode cX8_next 76 = .ok (.getfield 246, 3) := by decide +kernel
theorem dX8_next_79 : decode cX8_next 79 = .ok (.bipush 97, 2) := by decide +kernel
theorem dX8_next_81 : decode cX8_next 81 = .ok (.bipush 122, 2) := by decide +kernel
theorem dX8_next_83 : decode cX8_next 83 = .ok (.invokevirtual 252, 3) := by decide +kernel
theorem dX8_next_86 : decode cX8_next 86 = .ok (.ifCond .ne 22, 3) := by decide +kernel
theorem dX8_next_89 : decode cX8_next 89 = .ok (.iload_n 2, 1) := by decide +kernel
theorem dX8_next_90 : decode cX8_next 90 = .ok (.ifCond .eq 31, 3) := by decide +kernel
theorem dX8_next_93 : decode cX8_next 93 = .ok (.aload_n 0, 1) := by decide +kernel
theorem dX8_next_94 : decode cX8_next 94 = .ok (.aload_n 0, 1) := by decide +kernel
theorem dX8_next_95 : decode cX8_next 95 = .ok (.getfield 246, 3) := by decide +kernel
theorem dX8_next_98 : decode cX8_next 98 = .ok (.bipush 48, 2) := by decide +kernel
theorem dX8_next_100 : decode cX8_next 100 = .ok (.bipush 57, 2) := by decide +kernel
theorem dX8_next_102 : decode cX8_next 102 = .ok (.invokevirtual 252, 3) := by decide +kernel
theorem dX8_next_105 : decode cX8_next 105 = .ok (.ifCond .eq 16, 3) := by decide +kernel
theorem dX8_next_108 : decode cX8_next 108 = .ok (.aload_n 0, 1) := by decide +kernel
theorem dX8_next_109 : decode cX8_next 109 = .ok (.dup, 1) := by decide +kernel
theorem dX8_next_110 : decode cX8_next 110 = .ok (.getfield 246, 3) := by decide +kernel
theorem dX8_next_113 : decode cX8_next 113 = .ok (.iconst 1, 1) := by decide +kernel
theorem dX8_next_114 : decode cX8_next 114 = .ok (.iadd, 1) := by decide +kernel
theorem dX8_next_115 : decode cX8_next 115 = .ok (.putfield 246, 3) := by decide +kernel
theorem dX8_next_118 : decode cX8_next 118 = .ok (.goto (-48), 3) := by decide +kernel
theorem dX8_next_121 : decode cX8_next 121 = .ok (.aload_n 0, 1) := by decide +kernel
theorem dX8_next_122 : decode cX8_next 122 = .ok (.dup, 1) := by decide +kernel
theorem dX8_next_123 : decode cX8_next 123 = .ok (.getfield 246, 3) := by decide +kernel
theorem dX8_next_126 : decode cX8_next 126 = .ok (.iload_n 1, 1) := by decide +kernel
theorem dX8_next_127 : decode cX8_next 127 = .ok (.ifCond .ne 22, 3) := by decide +kernel
theorem dX8_next_130 : decode cX8_next 130 = .ok (.iload_n 2, 1) := by decide +kernel
theorem dX8_next_131 : decode cX8_next 131 = .ok (.ifCond .ne 18, 3) := by decide +kernel
theorem dX8_next_134 : decode cX8_next 134 = .ok (.aload_n 0, 1) := by decide +kernel
theorem dX8_next_135 : decode cX8_next 135 = .ok (.getfield 249, 3) := by decide +kernel
theorem dX8_next_138 : decode cX8_next 138 = .ok (.aload_n 0, 1) := by decide +kernel
theorem dX8_next_139 : decode cX8_next 139 = .ok (.getfield 243, 3) := by decide +kernel
theorem dX8_next_142 : decode cX8_next 142 = .ok (.if_icmp .ge 7, 3) := by decide +kernel
theorem dX8_next_145 : decode cX8_next 145 = .ok (.iconst 1, 1) := by decide +kernel
theorem dX8_next_146 : decode cX8_next 146 = .ok (.goto 4, 3) := by decide +kernel
theorem dX8_next_149 : decode cX8_next 149 = .ok (.iconst 0, 1) := by decide +kernel
theorem dX8_next_150 : decode cX8_next 150 = .ok (.iadd, 1) := by decide +kernel
theorem dX8_next_151 : decode cX8_next 151 = .ok (.putfield 246, 3) := by decide +kernel
theorem dX8_next_154 : decode cX8_next 154 = .ok (.return_, 1) := by decide +kernel
theorem dX8_isWord_0 : decode cX8_isWord 0 = .ok (.aload_n 0, 1) := by decide +kernel
theorem dX8_isWord_1 : decode cX8_isWord 1 = .ok (.getfield 255, 3) := by decide +kernel
theorem dX8_isWord_4 : decode cX8_isWord 4 = .ok (.ifCond .ne 23, 3) := by decide +kernel
theorem dX8_isWord_7 : decode cX8_isWord 7 = .ok (.aload_n 0, 1) := by decide +kernel
theorem dX8_isWord_8 : decode cX8_isWord 8 = .ok (.getfield 246, 3) := by decide +kernel
theorem dX8_isWord_11 : decode cX8_isWord 11 = .ok (.aload_n 0, 1) := by decide +kernel
theorem dX8_isWord_12 : decode cX8_isWord 12 = .ok (.getfield 249, 3) := by decide +kernel
theorem dX8_isWord_15 : decode cX8_isWord 15 = .ok (.isub, 1) := by decide +kernel
theorem dX8_isWord_16 : decode cX8_isWord 16 = .ok (.aload_n 1, 1) := by decide +kernel
theorem dX8_isWord_17 : decode cX8_isWord 17 = .ok (.invokevirtual 259, 3) := by decide +kernel
theorem dX8_isWord_20 : decode cX8_isWord 20 = .ok (.if_icmp .ne 7, 3) := by decide +kernel
theorem dX8_isWord_23 : decode cX8_isWord 23 = .ok (.iconst 1, 1) := by decide +kernel
theorem dX8_isWord_24 : decode cX8_isWord 24 = .ok (.goto 4, 3) := by decide +kernel
theorem dX8_isWord_27 : decode cX8_isWord 27 = .ok (.iconst 0, 1) := by decide +kernel
theorem dX8_isWord_28 : decode cX8_isWord 28 = .ok (.istore_n 2, 1) := by decide +kernel
theorem dX8_isWord_29 : decode cX8_isWord 29 = .ok (.iconst 0, 1) := by decide +kernel
theorem dX8_isWord_30 : decode cX8_isWord 30 = .ok (.istore_n 3, 1) := by decide +kernel
theorem dX8_isWord_31 : decode cX8_isWord 31 = .ok (.iload_n 2, 1) := by decide +kernel
theorem dX8_isWord_32 : decode cX8_isWord 32 = .ok (.ifCond .eq 42, 3) := by decide +kernel
theorem dX8_isWord_35 : decode cX8_isWord 35 = .ok (.iload_n 3, 1) := by decide +kernel
theorem dX8_isWord_36 : decode cX8_isWord 36 = .ok (.aload_n 1, 1) := by decide +kernel
theorem dX8_isWord_37 : decode cX8_isWord 37 = .ok (.invokevirtual 259, 3) := by decide +kernel
theorem dX8_isWord_40 : decode cX8_isWord 40 = .ok (.if_icmp .ge 34, 3) := by decide +kernel
theorem dX8_isWord_43 : decode cX8_isWord 43 = .ok (.aload_n 0, 1) := by decide +kernel
theorem dX8_isWord_44 : decode cX8_isWord 44 = .ok (.getfield 19, 3) := by decide +kernel
theorem dX8_isWord_47 : decode cX8_isWord 47 = .ok (.aload_n 0, 1) := by decide +kernel
theorem dX8_isWord_48 : decode cX8_isWord 48 = .ok (.getfield 249, 3) := by decide +kernel
theorem dX8_isWord_51 : decode cX8_isWord 51 = .ok (.iload_n 3, 1) := by decide +kernel
theorem dX8_isWord_52 : decode cX8_isWord 52 = .ok (.iadd, 1) := by decide +kernel
theorem dX8_isWord_53 : decode cX8_isWord 53 = .ok (.iaload, 1) := by decide +kernel
theorem dX8_isWord_54 : decode cX8_isWord 54 = .ok (.aload_n 1, 1) := by decide +kernel
theorem dX8_isWord_55 : decode cX8_isWord 55 = .ok (.iload_n 3, 1) := by decide +kernel
theorem dX8_isWord_56 : decode cX8_isWord 56 = .ok (.invokevirtual 264, 3) := by decide +kernel
theorem dX8_isWord_59 : decode cX8_isWord 59 = .ok (.if_icmp .ne 7, 3) := by decide +kernel
theorem dX8_isWord_62 : decode cX8_isWord 62 = .ok (.iconst 1, 1) := by decide +kernel
theorem dX8_isWord_63 : decode cX8_isWord 63 = .ok (.goto 4, 3) := by decide +kernel
theorem dX8_isWord_66 : decode cX8_isWord 66 = .ok (.iconst 0, 1) := by decide +kernel
theorem dX8_isWord_67 : decode cX8_isWord 67 = .ok (.istore_n 2, 1) := by decide +kernel
theorem dX8_isWord_68 : decode cX8_isWord 68 = .ok (.iinc 3 1, 3) := by decide +kernel
theorem dX8_isWord_71 : decode cX8_isWord 71 = .ok (.goto (-40), 3) := by decide +kernel
theorem dX8_isWord_74 : decode cX8_isWord 74 = .ok (.iload_n 2, 1) := by decide +kernel
theorem dX8_isWord_75 : decode cX8_isWord 75 = .ok (.ireturn, 1) := by decide +kernel
theorem dX8_takes_0 : decode cX8_takes 0 = .ok (.aload_n 0, 1) := by decide +kernel
theorem dX8_takes_1 : decode cX8_takes 1 = .ok (.aload_n 1, 1) := by decide +kernel
theorem dX8_takes_2 : decode cX8_takes 2 = .ok (.invokevirtual 268, 3) := by decide +kernel
theorem dX8_takes_5 : decode cX8_takes 5 = .ok (.istore_n 2, 1) := by decide +kernel
theorem dX8_takes_6 : decode cX8_takes 6 = .ok (.iload_n 2, 1) := by decide +kernel
theorem dX8_takes_7 : decode cX8_takes 7 = .ok (.ifCond .eq 7, 3) := by decide +kernel
theorem dX8_takes_10 : decode cX8_takes 10 = .ok (.aload_n 0, 1) := by decide +kernel
theorem dX8_takes_11 : decode cX8_takes 11 = .ok (.invokevirtual 272, 3) := by decide +kernel
theorem dX8_takes_14 : decode cX8_takes 14 = .ok (.iload_n 2, 1) := by decide +kernel
theorem dX8_takes_15 : decode cX8_takes 15 = .ok (.ireturn, 1) := by decide +kernel
theorem dX8_numberHere_0 : decode cX8_numberHere 0 = .ok (.aload_n 0, 1) := by decide +kernel
theorem dX8_numberHere_1 : decode cX8_numberHere 1 = .ok (.aload_n 0, 1) := by decide +kernel
theorem dX8_numberHere_2 : decode cX8_numberHere 2 = .ok (.getfield 249, 3) := by decide +kernel
theorem dX8_numberHere_5 : decode cX8_numberHere 5 = .ok (.bipush 48, 2) := by decide +kernel
theorem dX8_numberHere_7 : decode cX8_numberHere 7 = .ok (.bipush 57, 2) := by decide +kernel
theorem dX8_numberHere_9 : decode cX8_numberHere 9 = .ok (.invokevirtual 252, 3) := by decide +kernel
theorem dX8_numberHere_12 : decode cX8_numberHere 12 = .ok (.ifCond .eq 7, 3) := by decide +kernel
theorem dX8_numberHere_15 : decode cX8_numberHere 15 = .ok (.iconst 0, 1) := by decide +kernel
theorem dX8_numberHere_16 : decode cX8_numberHere 16 = .ok (.goto 4, 3) := by decide +kernel
theorem dX8_numberHere_19 : decode cX8_numberHere 19 = .ok (.iconst (-1), 1) := by decide +kernel
theorem dX8_numberHere_20 : decode cX8_numberHere 20 = .ok (.istore_n 1, 1) := by decide +kernel
theorem dX8_numberHere_21 : decode cX8_numberHere 21 = .ok (.aload_n 0, 1) := by decide +kernel
theorem dX8_numberHere_22 : decode cX8_numberHere 22 = .ok (.getfield 249, 3) := by decide +kernel
theorem dX8_numberHere_25 : decode cX8_numberHere 25 = .ok (.istore_n 2, 1) := by decide +kernel
theorem dX8_numberHere_26 : decode cX8_numberHere 26 = .ok (.iload_n 2, 1) := by decide +kernel
theorem dX8_numberHere_27 : decode cX8_numberHere 27 = .ok (.aload_n 0, 1) := by decide +kernel
theorem dX8_numberHere_28 : decode cX8_numberHere 28 = .ok (.getfield 246, 3) := by decide +kernel
theorem dX8_numberHere_31 : decode cX8_numberHere 31 = .ok (.if_icmp .ge 39, 3) := by decide +kernel
theorem dX8_numberHere_34 : decode cX8_numberHere 34 = .ok (.iload_n 1, 1) := by decide +kernel
theorem dX8_numberHere_35 : decode cX8_numberHere 35 = .ok (.ifCond .lt 35, 3) := by decide +kernel
theorem dX8_numberHere_38 : decode cX8_numberHere 38 = .ok (.iload_n 1, 1) := by decide +kernel
theorem dX8_numberHere_39 : decode cX8_numberHere 39 = .ok (.sipush 999, 3) := by decide +kernel
theorem dX8_numberHere_42 : decode cX8_numberHere 42 = .ok (.if_icmp .le 7, 3) := by decide +kernel
theorem dX8_numberHere_45 : decode cX8_numberHere 45 = .ok (.iload_n 1, 1) := by decide +kernel
theorem dX8_numberHere_46 : decode cX8_numberHere 46 = .ok (.goto 17, 3) := by decide +kernel
theorem dX8_numberHere_49 : decode cX8_numberHere 49 = .ok (.bipush 10, 2) := by decide +kernel
theorem dX8_numberHere_51 : decode cX8_numberHere 51 = .ok (.iload_n 1, 1) := by decide +kernel
theorem dX8_numberHere_52 : decode cX8_numberHere 52 = .ok (.imul, 1) := by decide +kernel
theorem dX8_numberHere_53 : decode cX8_numberHere 53 = .ok (.aload_n 0, 1) := by decide +kernel
theorem dX8_numberHere_54 : decode cX8_numberHere 54 = .ok (.getfield 19, 3) := by decide +kernel
theorem dX8_numberHere_57 : decode cX8_numberHere 57 = .ok (.iload_n 2, 1) := by decide +kernel
theorem dX8_numberHere_58 : decode cX8_numberHere 58 = .ok (.iaload, 1) := by decide +kernel
theorem dX8_numberHere_59 : decode cX8_numberHere 59 = .ok (.iadd, 1) := by decide +kernel
theorem dX8_numberHere_60 : decode cX8_numberHere 60 = .ok (.bipush 48, 2) := by decide +kernel
theorem dX8_numberHere_62 : decode cX8_numberHere 62 = .ok (.isub, 1) := by decide +kernel
theorem dX8_numberHere_63 : decode cX8_numberHere 63 = .ok (.istore_n 1, 1) := by decide +kernel
theorem dX8_numberHere_64 : decode cX8_numberHere 64 = .ok (.iinc 2 1, 3) := by decide +kernel
theorem dX8_numberHere_67 : decode cX8_numberHere 67 = .ok (.goto (-41), 3) := by decide +kernel
theorem dX8_numberHere_70 : decode cX8_numberHere 70 = .ok (.iload_n 1, 1) := by decide +kernel
theorem dX8_numberHere_71 : decode cX8_numberHere 71 = .ok (.ireturn, 1) := by decide +kernel
theorem dX8_number_0 : decode cX8_number 0 = .ok (.aload_n 0, 1) := by decide +kernel
theorem dX8_number_1 : decode cX8_number 1 = .ok (.invokevirtual 275, 3) := by decide +kernel
theorem dX8_number_4 : decode cX8_number 4 = .ok (.istore_n 2, 1) := by decide +kernel
theorem dX8_number_5 : decode cX8_number 5 = .ok (.aload_n 0, 1) := by decide +kernel
theorem dX8_number_6 : decode cX8_number 6 = .ok (.aload_n 0, 1) := by decide +kernel
theorem dX8_number_7 : decode cX8_number 7 = .ok (.getfield 255, 3) := by decide +kernel
theorem dX8_number_10 : decode cX8_number 10 = .ok (.ifCond .ne 14, 3) := by decide +kernel
theorem dX8_number_13 : decode cX8_number 13 = .ok (.iload_n 2, 1) := by decide +kernel
theorem dX8_number_14 : decode cX8_number 14 = .ok (.i2l, 1) := by decide +kernel
theorem dX8_number_15 : decode cX8_number 15 = .ok (.lconst 0, 1) := by decide +kernel
theorem dX8_number_16 : decode cX8_number 16 = .ok (.iload_n 1, 1) := by decide +kernel
theorem dX8_number_17 : decode cX8_number 17 = .ok (.i2l, 1) := by decide +kernel
theorem dX8_number_18 : decode cX8_number 18 = .ok (.invokestatic 54, 3) := by decide +kernel
theorem dX8_number_21 : decode cX8_number 21 = .ok (.ifCond .ne 7, 3) := by decide +kernel
theorem dX8_number_24 : decode cX8_number 24 = .ok (.iconst 1, 1) := by decide +kernel
theorem dX8_number_25 : decode cX8_number 25 = .ok (.goto 4, 3) := by decide +kernel
theorem dX8_number_28 : decode cX8_number 28 = .ok (.iconst 0, 1) := by decide +kernel
theorem dX8_number_29 : decode cX8_number 29 = .ok (.putfield 255, 3) := by decide +kernel
theorem dX8_number_32 : decode cX8_number 32 = .ok (.aload_n 0, 1) := by decide +kernel
theorem dX8_number_33 : decode cX8_number 33 = .ok (.getfield 255, 3) := by decide +kernel
theorem dX8_number_36 : decode cX8_number 36 = .ok (.ifCond .ne 7, 3) := by decide +kernel
theorem dX8_number_39 : decode cX8_number 39 = .ok (.aload_n 0, 1) := by decide +kernel
theorem dX8_number_40 : decode cX8_number 40 = .ok (.invokevirtual 272, 3) := by decide +kernel
theorem dX8_number_43 : decode cX8_number 43 = .ok (.iload_n 2, 1) := by decide +kernel
theorem dX8_number_44 : decode cX8_number 44 = .ok (.ireturn, 1) := by decide +kernel
theorem dX8_wordOf_0 : decode cX8_wordOf 0 = .ok (.iload_n 0, 1) := by decide +kernel
theorem dX8_wordOf_1 : decode cX8_wordOf 1 = .ok (.tableswitch 63 0 5 #[39, 43, 47, 51, 55, 59], 39) := by decide +kernel
theorem dX8_wordOf_40 : decode cX8_wordOf 40 = .ok (.ldc_w 278, 3) := by decide +kernel
theorem dX8_wordOf_43 : decode cX8_wordOf 43 = .ok (.areturn, 1) := by decide +kernel
theorem dX8_wordOf_44 : decode cX8_wordOf 44 = .ok (.ldc_w 280, 3) := by decide +kernel
theorem dX8_wordOf_47 : decode cX8_wordOf 47 = .ok (.areturn, 1) := by decide +kernel
theorem dX8_wordOf_48 : decode cX8_wordOf 48 = .ok (.ldc_w 282, 3) := by decide +kernel
theorem dX8_wordOf_51 : decode cX8_wordOf 51 = .ok (.areturn, 1) := by decide +kernel
theorem dX8_wordOf_52 : decode cX8_wordOf 52 = .ok (.ldc_w 284, 3) := by decide +kernel
theorem dX8_wordOf_55 : decode cX8_wordOf 55 = .ok (.areturn, 1) := by decide +kernel
theorem dX8_wordOf_56 : decode cX8_wordOf 56 = .ok (.ldc_w 286, 3) := by decide +kernel
theorem dX8_wordOf_59 : decode cX8_wordOf 59 = .ok (.areturn, 1) := by decide +kernel
theorem dX8_wordOf_60 : decode cX8_wordOf 60 = .ok (.ldc_w 288, 3) := by decide +kernel
theorem dX8_wordOf_63 : decode cX8_wordOf 63 = .ok (.areturn, 1) := by decide +kernel
theorem dX8_wordOf_64 : decode cX8_wordOf 64 = .ok (.ldc_w 290, 3) := by decide +kernel
theorem dX8_wordOf_67 : decode cX8_wordOf 67 = .ok (.areturn, 1) := by decide +kernel
theorem dX8_kindHere_0 : decode cX8_kindHere 0 = .ok (.bipush 6, 2) := by decide +kernel
theorem dX8_kindHere_2 : decode cX8_kindHere 2 = .ok (.istore_n 1, 1) := by decide +kernel
theorem dX8_kindHere_3 : decode cX8_kindHere 3 = .ok (.iload_n 1, 1) := by decide +kernel
theorem dX8_kindHere_4 : decode cX8_kindHere 4 = .ok (.ifCond .lt 20, 3) := by decide +kernel
theorem dX8_kindHere_7 : decode cX8_kindHere 7 = .ok (.aload_n 0, 1) := by decide +kernel
theorem dX8_kindHere_8 : decode cX8_kindHere 8 = .ok (.iload_n 1, 1) := by decide +kernel
theorem dX8_kindHere_9 : decode cX8_kindHere 9 = .ok (.invokestatic 292, 3) := by decide +kernel
theorem dX8_kindHere_12 : decode cX8_kindHere 12 = .ok (.invokevirtual 268, 3) := by decide +kernel
theorem dX8_kindHere_15 : decode cX8_kindHere 15 = .ok (.ifCond .ne 9, 3) := by decide +kernel
theorem dX8_kindHere_18 : decode cX8_kindHere 18 = .ok (.iinc 1 (-1), 3) := by decide +kernel
theorem dX8_kindHere_21 : decode cX8_kindHere 21 = .ok (.goto (-18), 3) := by decide +kernel
theorem dX8_kindHere_24 : decode cX8_kindHere 24 = .ok (.iload_n 1, 1) := by decide +kernel
theorem dX8_kindHere_25 : decode cX8_kindHere 25 = .ok (.ireturn, 1) := by decide +kernel
theorem dX8_perhaps_0 : decode cX8_perhaps 0 = .ok (.aload_n 0, 1) := by decide +kernel
theorem dX8_perhaps_1 : decode cX8_perhaps 1 = .ok (.aload_n 1, 1) := by decide +kernel
theorem dX8_perhaps_2 : decode cX8_perhaps 2 = .ok (.invokevirtual 296, 3) := by decide +kernel
theorem dX8_perhaps_5 : decode cX8_perhaps 5 = .ok (.ifCond .ne 6, 3) := by decide +kernel
theorem dX8_perhaps_8 : decode cX8_perhaps 8 = .ok (.iload 4, 2) := by decide +kernel
theorem dX8_perhaps_10 : decode cX8_perhaps 10 = .ok (.ireturn, 1) := by decide +kernel
theorem dX8_perhaps_11 : decode cX8_perhaps 11 = .ok (.aload_n 0, 1) := by decide +kernel
theorem dX8_perhaps_12 : decode cX8_perhaps 12 = .ok (.invokevirtual 275, 3) := by decide +kernel
theorem dX8_perhaps_15 : decode cX8_perhaps 15 = .ok (.istore 5, 2) := by decide +kernel
theorem dX8_perhaps_17 : decode cX8_perhaps 17 = .ok (.aload_n 0, 1) := by decide +kernel
theorem dX8_perhaps_18 : decode cX8_perhaps 18 = .ok (.aload_n 0, 1) := by decide +kernel
theorem dX8_perhaps_19 : decode cX8_perhaps 19 = .ok (.getfield 255, 3) := by decide +kernel
theorem dX8_perhaps_22 : decode cX8_perhaps 22 = .ok (.ifCond .ne 9, 3) := by decide +kernel
theorem dX8_perhaps_25 : decode cX8_perhaps 25 = .ok (.iload 5, 2) := by decide +kernel
theorem dX8_perhaps_27 : decode cX8_perhaps 27 = .ok (.iload_n 2, 1) := by decide +kernel
theorem dX8_perhaps_28 : decode cX8_perhaps 28 = .ok (.if_icmp .ge 7, 3) := by decide +kernel
theorem dX8_perhaps_31 : decode cX8_perhaps 31 = .ok (.iconst 1, 1) := by decide +kernel
theorem dX8_perhaps_32 : decode cX8_perhaps 32 = .ok (.goto 4, 3) := by decide +kernel
theorem dX8_perhaps_35 : decode cX8_perhaps 35 = .ok (.iconst 0, 1) := by decide +kernel
theorem dX8_perhaps_36 : decode cX8_perhaps 36 = .ok (.putfield 255, 3) := by decide +kernel
theorem dX8_perhaps_39 : decode cX8_perhaps 39 = .ok (.aload_n 0, 1) := by decide +kernel
theorem dX8_perhaps_40 : decode cX8_perhaps 40 = .ok (.iload_n 3, 1) := by decide +kernel
theorem dX8_perhaps_41 : decode cX8_perhaps 41 = .ok (.invokevirtual 299, 3) := by decide +kernel
theorem dX8_perhaps_44 : decode cX8_perhaps 44 = .ok (.ireturn, 1) := by decide +kernel
theorem dX8_thingTold_0 : decode cX8_thingTold 0 = .ok (.aload_n 0, 1) := by decide +kernel
theorem dX8_thingTold_1 : decode cX8_thingTold 1 = .ok (.aload_n 0, 1) := by decide +kernel
theorem dX8_thingTold_2 : decode cX8_thingTold 2 = .ok (.getfield 9, 3) := by decide +kernel
theorem dX8_thingTold_5 : decode cX8_thingTold 5 = .ok (.bipush 11, 2) := by decide +kernel
theorem dX8_thingTold_7 : decode cX8_thingTold 7 = .ok (.iaload, 1) := by decide +kernel
theorem dX8_thingTold_8 : decode cX8_thingTold 8 = .ok (.bipush 8, 2) := by decide +kernel
theorem dX8_thingTold_10 : decode cX8_thingTold 10 = .ok (.if_icmp .ne 7, 3) := by decide +kernel
theorem dX8_thingTold_13 : decode cX8_thingTold 13 = .ok (.iconst 1, 1) := by decide +kernel
theorem dX8_thingTold_14 : decode cX8_thingTold 14 = .ok (.goto 4, 3) := by decide +kernel
theorem dX8_thingTold_17 : decode cX8_thingTold 17 = .ok (.iconst 0, 1) := by decide +kernel
theorem dX8_thingTold_18 : decode cX8_thingTold 18 = .ok (.putfield 255, 3) := by decide +kernel
theorem dX8_thingTold_21 : decode cX8_thingTold 21 = .ok (.aload_n 0, 1) := by decide +kernel
theorem dX8_thingTold_22 : decode cX8_thingTold 22 = .ok (.getfield 255, 3) := by decide +kernel
theorem dX8_thingTold_25 : decode cX8_thingTold 25 = .ok (.ifCond .eq 4, 3) := by decide +kernel
theorem dX8_thingTold_28 : decode cX8_thingTold 28 = .ok (.return_, 1) := by decide +kernel
theorem dX8_thingTold_29 : decode cX8_thingTold 29 = .ok (.aload_n 0, 1) := by decide +kernel
theorem dX8_thingTold_30 : decode cX8_thingTold 30 = .ok (.invokevirtual 272, 3) := by decide +kernel
theorem dX8_thingTold_33 : decode cX8_thingTold 33 = .ok (.aload_n 0, 1) := by decide +kernel
theorem dX8_thingTold_34 : decode cX8_thingTold 34 = .ok (.ldc_w 301, 3) := by decide +kernel
theorem dX8_thingTold_37 : decode cX8_thingTold 37 = .ok (.iconst 0, 1) := by decide +kernel
theorem dX8_thingTold_38 : decode cX8_thingTold 38 = .ok (.bipush 7, 2) := by decide +kernel
theorem dX8_thingTold_40 : decode cX8_thingTold 40 = .ok (.iconst 0, 1) := by decide +kernel
theorem dX8_thingTold_41 : decode cX8_thingTold 41 = .ok (.invokevirtual 303, 3) := by decide +kernel
theorem dX8_thingTold_44 : decode cX8_thingTold 44 = .ok (.istore_n 2, 1) := by decide +kernel
theorem dX8_thingTold_45 : decode cX8_thingTold 45 = .ok (.aload_n 0, 1) := by decide +kernel
theorem dX8_thingTold_46 : decode cX8_thingTold 46 = .ok (.ldc_w 307, 3) := by decide +kernel
theorem dX8_thingTold_49 : decode cX8_thingTold 49 = .ok (.iconst 1, 1) := by decide +kernel
theorem dX8_thingTold_50 : decode cX8_thingTold 50 = .ok (.bipush 60, 2) := by decide +kernel
theorem dX8_thingTold_52 : decode cX8_thingTold 52 = .ok (.bipush 8, 2) := by decide +kernel
theorem dX8_thingTold_54 : decode cX8_thingTold 54 = .ok (.invokevirtual 303, 3) := by decide +kernel
theorem dX8_thingTold_57 : decode cX8_thingTold 57 = .ok (.istore_n 3, 1) := by decide +kernel
theorem dX8_thingTold_58 : decode cX8_thingTold 58 = .ok (.aload_n 0, 1) := by decide +kernel
theorem dX8_thingTold_59 : decode cX8_thingTold 59 = .ok (.getfield 255, 3) := by decide +kernel
theorem dX8_thingTold_62 : decode cX8_thingTold 62 = .ok (.ifCond .ne 10, 3) := by decide +kernel
theorem dX8_thingTold_65 : decode cX8_thingTold 65 = .ok (.aload_n 0, 1) := by decide +kernel
theorem dX8_thingTold_66 : decode cX8_thingTold 66 = .ok (.iload_n 1, 1) := by decide +kernel
theorem dX8_thingTold_67 : decode cX8_thingTold 67 = .ok (.iload_n 2, 1) := by decide +kernel
theorem dX8_thingTold_68 : decode cX8_thingTold 68 = .ok (.iload_n 3, 1) := by decide +kernel
theorem dX8_thingTold_69 : decode cX8_thingTold 69 = .ok (.invokevirtual 86, 3) := by decide +kernel
theorem dX8_thingTold_72 : decode cX8_thingTold 72 = .ok (.return_, 1) := by decide +kernel
theorem dX8_oneTold_0 : decode cX8_oneTold 0 = .ok (.aload_n 0, 1) := by decide +kernel
theorem dX8_oneTold_1 : decode cX8_oneTold 1 = .ok (.aload_n 0, 1) := by decide +kernel
theorem dX8_oneTold_2 : decode cX8_oneTold 2 = .ok (.getfield 9, 3) := by decide +kernel
theorem dX8_oneTold_5 : decode cX8_oneTold 5 = .ok (.bipush 12, 2) := by decide +kernel
theorem dX8_oneTold_7 : decode cX8_oneTold 7 = .ok (.iaload, 1) := by decide +kernel
theorem dX8_oneTold_8 : decode cX8_oneTold 8 = .ok (.iconst 4, 1) := by decide +kernel
theorem dX8_oneTold_9 : decode cX8_oneTold 9 = .ok (.if_icmp .ne 7, 3) := by decide +kernel
theorem dX8_oneTold_12 : decode cX8_oneTold 12 = .ok (.iconst 1, 1) := by decide +kernel
theorem dX8_oneTold_13 : decode cX8_oneTold 13 = .ok (.goto 4, 3) := by decide +kernel
theorem dX8_oneTold_16 : decode cX8_oneTold 16 = .ok (.iconst 0, 1) := by decide +kernel
theorem dX8_oneTold_17 : decode cX8_oneTold 17 = .ok (.putfield 255, 3) := by decide +kernel
theorem dX8_oneTold_20 : decode cX8_oneTold 20 = .ok (.aload_n 0, 1) := by decide +kernel
theorem dX8_oneTold_21 : decode cX8_oneTold 21 = .ok (.getfield 255, 3) := by decide +kernel
theorem dX8_oneTold_24 : decode cX8_oneTold 24 = .ok (.ifCond .eq 4, 3) := by decide +kernel
theorem dX8_oneTold_27 : decode cX8_oneTold 27 = .ok (.return_, 1) := by decide +kernel
theorem dX8_oneTold_28 : decode cX8_oneTold 28 = .ok (.aload_n 0, 1) := by decide +kernel
theorem dX8_oneTold_29 : decode cX8_oneTold 29 = .ok (.invokevirtual 272, 3) := by decide +kernel
theorem dX8_oneTold_32 : decode cX8_oneTold 32 = .ok (.aload_n 0, 1) := by decide +kernel
theorem dX8_oneTold_33 : decode cX8_oneTold 33 = .ok (.ldc_w 301, 3) := by decide +kernel
theorem dX8_oneTold_36 : decode cX8_oneTold 36 = .ok (.iconst 0, 1) := by decide +kernel
theorem dX8_oneTold_37 : decode cX8_oneTold 37 = .ok (.bipush 7, 2) := by decide +kernel
theorem dX8_oneTold_39 : decode cX8_oneTold 39 = .ok (.iconst 0, 1) := by decide +kernel
theorem dX8_oneTold_40 : decode cX8_oneTold 40 = .ok (.invokevirtual 303, 3) := by decide +kernel
theorem dX8_oneTold_43 : decode cX8_oneTold 43 = .ok (.istore_n 1, 1) := by decide +kernel
theorem dX8_oneTold_44 : decode cX8_oneTold 44 = .ok (.aload_n 0, 1) := by decide +kernel
theorem dX8_oneTold_45 : decode cX8_oneTold 45 = .ok (.ldc_w 309, 3) := by decide +kernel
theorem dX8_oneTold_48 : decode cX8_oneTold 48 = .ok (.iconst 0, 1) := by decide +kernel
theorem dX8_oneTold_49 : decode cX8_oneTold 49 = .ok (.iconst 4, 1) := by decide +kernel
theorem dX8_oneTold_50 : decode cX8_oneTold 50 = .ok (.iconst 0, 1) := by decide +kernel
theorem dX8_oneTold_51 : decode cX8_oneTold 51 = .ok (.invokevirtual 303, 3) := by decide +kernel
theorem dX8_oneTold_54 : decode cX8_oneTold 54 = .ok (.istore_n 2, 1) := by decide +kernel
theorem dX8_oneTold_55 : decode cX8_oneTold 55 = .ok (.aload_n 0, 1) := by decide +kernel
theorem dX8_oneTold_56 : decode cX8_oneTold 56 = .ok (.ldc_w 311, 3) := by decide +kernel
theorem dX8_oneTold_59 : decode cX8_oneTold 59 = .ok (.iconst 0, 1) := by decide +kernel
theorem dX8_oneTold_60 : decode cX8_oneTold 60 = .ok (.bipush 60, 2) := by decide +kernel
theorem dX8_oneTold_62 : decode cX8_oneTold 62 = .ok (.bipush 10, 2) := by decide +kernel
theorem dX8_oneTold_64 : decode cX8_oneTold 64 = .ok (.invokevirtual 303, 3) := by decide +kernel
theorem dX8_oneTold_67 : decode cX8_oneTold 67 = .ok (.istore_n 3, 1) := by decide +kernel
theorem dX8_oneTold_68 : decode cX8_oneTold 68 = .ok (.aload_n 0, 1) := by decide +kernel
theorem dX8_oneTold_69 : decode cX8_oneTold 69 = .ok (.getfield 255, 3) := by decide +kernel
theorem dX8_oneTold_72 : decode cX8_oneTold 72 = .ok (.ifCond .ne 14, 3) := by decide +kernel
theorem dX8_oneTold_75 : decode cX8_oneTold 75 = .ok (.aload_n 0, 1) := by decide +kernel
theorem dX8_oneTold_76 : decode cX8_oneTold 76 = .ok (.bipush 8, 2) := by decide +kernel
theorem dX8_oneTold_78 : decode cX8_oneTold 78 = .ok (.iload_n 2, 1) := by decide +kernel
theorem dX8_oneTold_79 : decode cX8_oneTold 79 = .ok (.imul, 1) := by decide +kernel
theorem dX8_oneTold_80 : decode cX8_oneTold 80 = .ok (.iload_n 1, 1) := by decide +kernel
theorem dX8_oneTold_81 : decode cX8_oneTold 81 = .ok (.iadd, 1) := by decide +kernel
theorem dX8_oneTold_82 : decode cX8_oneTold 82 = .ok (.iload_n 3, 1) := by decide +kernel
theorem dX8_oneTold_83 : decode cX8_oneTold 83 = .ok (.invokevirtual 102, 3) := by decide +kernel
theorem dX8_oneTold_86 : decode cX8_oneTold 86 = .ok (.return_, 1) := by decide +kernel
theorem dX8_doorTold_0 : decode cX8_doorTold 0 = .ok (.aload_n 0, 1) := by decide +kernel
theorem dX8_doorTold_1 : decode cX8_doorTold 1 = .ok (.bipush 7, 2) := by decide +kernel
theorem dX8_doorTold_3 : decode cX8_doorTold 3 = .ok (.invokevirtual 299, 3) := by decide +kernel
theorem dX8_doorTold_6 : decode cX8_doorTold 6 = .ok (.istore_n 2, 1) := by decide +kernel
theorem dX8_doorTold_7 : decode cX8_doorTold 7 = .ok (.aload_n 0, 1) := by decide +kernel
theorem dX8_doorTold_8 : decode cX8_doorTold 8 = .ok (.aload_n 0, 1) := by decide +kernel
theorem dX8_doorTold_9 : decode cX8_doorTold 9 = .ok (.getfield 255, 3) := by decide +kernel
theorem dX8_doorTold_12 : decode cX8_doorTold 12 = .ok (.ifCond .ne 11, 3) := by decide +kernel
theorem dX8_doorTold_15 : decode cX8_doorTold 15 = .ok (.aload_n 0, 1) := by decide +kernel
theorem dX8_doorTold_16 : decode cX8_doorTold 16 = .ok (.invokevirtual 275, 3) := by decide +kernel
theorem dX8_doorTold_19 : decode cX8_doorTold 19 = .ok (.iload_n 2, 1) := by decide +kernel
theorem dX8_doorTold_20 : decode cX8_doorTold 20 = .ok (.if_icmp .ne 7, 3) := by decide +kernel
theorem dX8_doorTold_23 : decode cX8_doorTold 23 = .ok (.iconst 1, 1) := by decide +kernel
theorem dX8_doorTold_24 : decode cX8_doorTold 24 = .ok (.goto 4, 3) := by decide +kernel
theorem dX8_doorTold_27 : decode cX8_doorTold 27 = .ok (.iconst 0, 1) := by decide +kernel
theorem dX8_doorTold_28 : decode cX8_doorTold 28 = .ok (.putfield 255, 3) := by decide +kernel
theorem dX8_doorTold_31 : decode cX8_doorTold 31 = .ok (.aload_n 0, 1) := by decide +kernel
theorem dX8_doorTold_32 : decode cX8_doorTold 32 = .ok (.bipush 7, 2) := by decide +kernel
theorem dX8_doorTold_34 : decode cX8_doorTold 34 = .ok (.invokevirtual 299, 3) := by decide +kernel
theorem dX8_doorTold_37 : decode cX8_doorTold 37 = .ok (.istore_n 3, 1) := by decide +kernel
theorem dX8_doorTold_38 : decode cX8_doorTold 38 = .ok (.aload_n 0, 1) := by decide +kernel
theorem dX8_doorTold_39 : decode cX8_doorTold 39 = .ok (.getfield 255, 3) := by decide +kernel
theorem dX8_doorTold_42 : decode cX8_doorTold 42 = .ok (.ifCond .ne 10, 3) := by decide +kernel
theorem dX8_doorTold_45 : decode cX8_doorTold 45 = .ok (.aload_n 0, 1) := by decide +kernel
theorem dX8_doorTold_46 : decode cX8_doorTold 46 = .ok (.iload_n 2, 1) := by decide +kernel
theorem dX8_doorTold_47 : decode cX8_doorTold 47 = .ok (.iload_n 3, 1) := by decide +kernel
theorem dX8_doorTold_48 : decode cX8_doorTold 48 = .ok (.iload_n 1, 1) := by decide +kernel
theorem dX8_doorTold_49 : decode cX8_doorTold 49 = .ok (.invokevirtual 43, 3) := by decide +kernel
theorem dX8_doorTold_52 : decode cX8_doorTold 52 = .ok (.return_, 1) := by decide +kernel
theorem dX8_ruleTold_0 : decode cX8_ruleTold 0 = .ok (.aload_n 0, 1) := by decide +kernel
theorem dX8_ruleTold_1 : decode cX8_ruleTold 1 = .ok (.iload_n 2, 1) := by decide +kernel
theorem dX8_ruleTold_2 : decode cX8_ruleTold 2 = .ok (.invokevirtual 299, 3) := by decide +kernel
theorem dX8_ruleTold_5 : decode cX8_ruleTold 5 = .ok (.istore_n 3, 1) := by decide +kernel
theorem dX8_ruleTold_6 : decode cX8_ruleTold 6 = .ok (.aload_n 0, 1) := by decide +kernel
theorem dX8_ruleTold_7 : decode cX8_ruleTold 7 = .ok (.getfield 9, 3) := by decide +kernel
theorem dX8_ruleTold_10 : decode cX8_ruleTold 10 = .ok (.bipush 8, 2) := by decide +kernel
theorem dX8_ruleTold_12 : decode cX8_ruleTold 12 = .ok (.iload_n 1, 1) := by decide +kernel
theorem dX8_ruleTold_13 : decode cX8_ruleTold 13 = .ok (.iadd, 1) := by decide +kernel
theorem dX8_ruleTold_14 : decode cX8_ruleTold 14 = .ok (.aload_n 0, 1) := by decide +kernel
theorem dX8_ruleTold_15 : decode cX8_ruleTold 15 = .ok (.getfield 255, 3) := by decide +kernel
theorem dX8_ruleTold_18 : decode cX8_ruleTold 18 = .ok (.ifCond .eq 15, 3) := by decide +kernel
theorem dX8_ruleTold_21 : decode cX8_ruleTold 21 = .ok (.aload_n 0, 1) := by decide +kernel
theorem dX8_ruleTold_22 : decode cX8_ruleTold 22 = .ok (.getfield 9, 3) := by decide +kernel
theorem dX8_ruleTold_25 : decode cX8_ruleTold 25 = .ok (.bipush 8, 2) := by decide +kernel
theorem dX8_ruleTold_27 : decode cX8_ruleTold 27 = .ok (.iload_n 1, 1) := by decide +kernel
theorem dX8_ruleTold_28 : decode cX8_ruleTold 28 = .ok (.iadd, 1) := by decide +kernel
theorem dX8_ruleTold_29 : decode cX8_ruleTold 29 = .ok (.iaload, 1) := by decide +kernel
theorem dX8_ruleTold_30 : decode cX8_ruleTold 30 = .ok (.goto 4, 3) := by decide +kernel
theorem dX8_ruleTold_33 : decode cX8_ruleTold 33 = .ok (.iload_n 3, 1) := by decide +kernel
theorem dX8_ruleTold_34 : decode cX8_ruleTold 34 = .ok (.iastore, 1) := by decide +kernel
theorem dX8_ruleTold_35 : decode cX8_ruleTold 35 = .ok (.return_, 1) := by decide +kernel
theorem dX8_item_0 : decode cX8_item 0 = .ok (.aload_n 0, 1) := by decide +kernel
theorem dX8_item_1 : decode cX8_item 1 = .ok (.invokevirtual 313, 3) := by decide +kernel
theorem dX8_item_4 : decode cX8_item 4 = .ok (.istore_n 1, 1) := by decide +kernel
theorem dX8_item_5 : decode cX8_item 5 = .ok (.iload_n 1, 1) := by decide +kernel
theorem dX8_item_6 : decode cX8_item 6 = .ok (.ifCond .lt 11, 3) := by decide +kernel
theorem dX8_item_9 : decode cX8_item 9 = .ok (.aload_n 0, 1) := by decide +kernel
theorem dX8_item_10 : decode cX8_item 10 = .ok (.iload_n 1, 1) := by decide +kernel
theorem dX8_item_11 : decode cX8_item 11 = .ok (.invokevirtual 316, 3) := by decide +kernel
theorem dX8_item_14 : decode cX8_item 14 = .ok (.goto 121, 3) := by decide +kernel
theorem dX8_item_17 : decode cX8_item 17 = .ok (.aload_n 0, 1) := by decide +kernel
theorem dX8_item_18 : decode cX8_item 18 = .ok (.ldc_w 319, 3) := by decide +kernel
theorem dX8_item_21 : decode cX8_item 21 = .ok (.invokevirtual 268, 3) := by decide +kernel
theorem dX8_item_24 : decode cX8_item 24 = .ok (.ifCond .eq 10, 3) := by decide +kernel
theorem dX8_item_27 : decode cX8_item 27 = .ok (.aload_n 0, 1) := by decide +kernel
theorem dX8_item_28 : decode cX8_item 28 = .ok (.invokevirtual 321, 3) := by decide +kernel
theorem dX8_item_31 : decode cX8_item 31 = .ok (.goto 104, 3) := by decide +kernel
theorem dX8_item_34 : decode cX8_item 34 = .ok (.aload_n 0, 1) := by decide +kernel
theorem dX8_item_35 : decode cX8_item 35 = .ok (.ldc_w 324, 3) := by decide +kernel
theorem dX8_item_38 : decode cX8_item 38 = .ok (.invokevirtual 296, 3) := by decide +kernel
theorem dX8_item_41 : decode cX8_item 41 = .ok (.ifCond .eq 11, 3) := by decide +kernel
theorem dX8_item_44 : decode cX8_item 44 = .ok (.aload_n 0, 1) := by decide +kernel
theorem dX8_item_45 : decode cX8_item 45 = .ok (.iconst 1, 1) := by decide +kernel
theorem dX8_item_46 : decode cX8_item 46 = .ok (.invokevirtual 326, 3) := by decide +kernel
theorem dX8_item_49 : decode cX8_item 49 = .ok (.goto 86, 3) := by decide +kernel
theorem dX8_item_52 : decode cX8_item 52 = .ok (.aload_n 0, 1) := by decide +kernel
theorem dX8_item_53 : decode cX8_item 53 = .ok (.ldc_w 330, 3) := by decide +kernel
theorem dX8_item_56 : decode cX8_item 56 = .ok (.invokevirtual 296, 3) := by decide +kernel
theorem dX8_item_59 : decode cX8_item 59 = .ok (.ifCond .eq 11, 3) := by decide +kernel
theorem dX8_item_62 : decode cX8_item 62 = .ok (.aload_n 0, 1) := by decide +kernel
theorem dX8_item_63 : decode cX8_item 63 = .ok (.iconst 0, 1) := by decide +kernel
theorem dX8_item_64 : decode cX8_item 64 = .ok (.invokevirtual 326, 3) := by decide +kernel
theorem dX8_item_67 : decode cX8_item 67 = .ok (.goto 68, 3) := by decide +kernel
theorem dX8_item_70 : decode cX8_item 70 = .ok (.aload_n 0, 1) := by decide +kernel
theorem dX8_item_71 : decode cX8_item 71 = .ok (.ldc_w 332, 3) := by decide +kernel
theorem dX8_item_74 : decode cX8_item 74 = .ok (.invokevirtual 296, 3) := by decide +kernel
theorem dX8_item_77 : decode cX8_item 77 = .ok (.ifCond .eq 13, 3) := by decide +kernel
theorem dX8_item_80 : decode cX8_item 80 = .ok (.aload_n 0, 1) := by decide +kernel
theorem dX8_item_81 : decode cX8_item 81 = .ok (.iconst 0, 1) := by decide +kernel
theorem dX8_item_82 : decode cX8_item 82 = .ok (.bipush 7, 2) := by decide +kernel
theorem dX8_item_84 : decode cX8_item 84 = .ok (.invokevirtual 334, 3) := by decide +kernel
theorem dX8_item_87 : decode cX8_item 87 = .ok (.goto 48, 3) := by decide +kernel
theorem dX8_item_90 : decode cX8_item 90 = .ok (.aload_n 0, 1) := by decide +kernel
theorem dX8_item_91 : decode cX8_item 91 = .ok (.ldc_w 337, 3) := by decide +kernel
theorem dX8_item_94 : decode cX8_item 94 = .ok (.invokevirtual 296, 3) := by decide +kernel
theorem dX8_item_97 : decode cX8_item 97 = .ok (.ifCond .eq 13, 3) := by decide +kernel
theorem dX8_item_100 : decode cX8_item 100 = .ok (.aload_n 0, 1) := by decide +kernel
theorem dX8_item_101 : decode cX8_item 101 = .ok (.iconst 1, 1) := by decide +kernel
theorem dX8_item_102 : decode cX8_item 102 = .ok (.bipush 7, 2) := by decide +kernel
theorem dX8_item_104 : decode cX8_item 104 = .ok (.invokevirtual 334, 3) := by decide +kernel
theorem dX8_item_107 : decode cX8_item 107 = .ok (.goto 28, 3) := by decide +kernel
theorem dX8_item_110 : decode cX8_item 110 = .ok (.aload_n 0, 1) := by decide +kernel
theorem dX8_item_111 : decode cX8_item 111 = .ok (.ldc_w 339, 3) := by decide +kernel
theorem dX8_item_114 : decode cX8_item 114 = .ok (.invokevirtual 296, 3) := by decide +kernel
theorem dX8_item_117 : decode cX8_item 117 = .ok (.ifCond .eq 13, 3) := by decide +kernel
theorem dX8_item_120 : decode cX8_item 120 = .ok (.aload_n 0, 1) := by decide +kernel
theorem dX8_item_121 : decode cX8_item 121 = .ok (.iconst 2, 1) := by decide +kernel
theorem dX8_item_122 : decode cX8_item 122 = .ok (.bipush 100, 2) := by decide +kernel
theorem dX8_item_124 : decode cX8_item 124 = .ok (.invokevirtual 334, 3) := by decide +kernel
theorem dX8_item_127 : decode cX8_item 127 = .ok (.goto 8, 3) := by decide +kernel
theorem dX8_item_130 : decode cX8_item 130 = .ok (.aload_n 0, 1) := by decide +kernel
theorem dX8_item_131 : decode cX8_item 131 = .ok (.iconst 1, 1) := by decide +kernel
theorem dX8_item_132 : decode cX8_item 132 = .ok (.putfield 255, 3) := by decide +kernel
theorem dX8_item_135 : decode cX8_item 135 = .ok (.return_, 1) := by decide +kernel
theorem dX8_text_0 : decode cX8_text 0 = .ok (.aload_n 0, 1) := by decide +kernel
theorem dX8_text_1 : decode cX8_text 1 = .ok (.invokevirtual 196, 3) := by decide +kernel
theorem dX8_text_4 : decode cX8_text 4 = .ok (.aload_n 0, 1) := by decide +kernel
theorem dX8_text_5 : decode cX8_text 5 = .ok (.iconst 0, 1) := by decide +kernel
theorem dX8_text_6 : decode cX8_text 6 = .ok (.putfield 255, 3) := by decide +kernel
theorem dX8_text_9 : decode cX8_text 9 = .ok (.aload_n 0, 1) := by decide +kernel
theorem dX8_text_10 : decode cX8_text 10 = .ok (.iconst 0, 1) := by decide +kernel
theorem dX8_text_11 : decode cX8_text 11 = .ok (.putfield 246, 3) := by decide +kernel
theorem dX8_text_14 : decode cX8_text 14 = .ok (.aload_n 0, 1) := by decide +kernel
theorem dX8_text_15 : decode cX8_text 15 = .ok (.invokevirtual 272, 3) := by decide +kernel
theorem dX8_text_18 : decode cX8_text 18 = .ok (.aload_n 0, 1) := by decide +kernel
theorem dX8_text_19 : decode cX8_text 19 = .ok (.invokevirtual 341, 3) := by decide +kernel
theorem dX8_text_22 : decode cX8_text 22 = .ok (.iconst 1, 1) := by decide +kernel
theorem dX8_text_23 : decode cX8_text 23 = .ok (.istore_n 1, 1) := by decide +kernel
theorem dX8_text_24 : decode cX8_text 24 = .ok (.aload_n 0, 1) := by decide +kernel
theorem dX8_text_25 : decode cX8_text 25 = .ok (.getfield 255, 3) := by decide +kernel
theorem dX8_text_28 : decode cX8_text 28 = .ok (.ifCond .ne 27, 3) := by decide +kernel
theorem dX8_text_31 : decode cX8_text 31 = .ok (.aload_n 0, 1) := by decide +kernel
theorem dX8_text_32 : decode cX8_text 32 = .ok (.ldc_w 344, 3) := by decide +kernel
theorem dX8_text_35 : decode cX8_text 35 = .ok (.invokevirtual 268, 3) := by decide +kernel
theorem dX8_text_38 : decode cX8_text 38 = .ok (.ifCond .eq 17, 3) := by decide +kernel
theorem dX8_text_41 : decode cX8_text 41 = .ok (.aload_n 0, 1) := by decide +kernel
theorem dX8_text_42 : decode cX8_text 42 = .ok (.invokevirtual 272, 3) := by decide +kernel
theorem dX8_text_45 : decode cX8_text 45 = .ok (.aload_n 0, 1) := by decide +kernel
theorem dX8_text_46 : decode cX8_text 46 = .ok (.invokevirtual 341, 3) := by decide +kernel
theorem dX8_text_49 : decode cX8_text 49 = .ok (.iinc 1 1, 3) := by decide +kernel
theorem dX8_text_52 : decode cX8_text 52 = .ok (.goto (-28), 3) := by decide +kernel
theorem dX8_text_55 : decode cX8_text 55 = .ok (.aload_n 0, 1) := by decide +kernel
theorem dX8_text_56 : decode cX8_text 56 = .ok (.aload_n 0, 1) := by decide +kernel
theorem dX8_text_57 : decode cX8_text 57 = .ok (.getfield 255, 3) := by decide +kernel
theorem dX8_text_60 : decode cX8_text 60 = .ok (.ifCond .ne 14, 3) := by decide +kernel
theorem dX8_text_63 : decode cX8_text 63 = .ok (.aload_n 0, 1) := by decide +kernel
theorem dX8_text_64 : decode cX8_text 64 = .ok (.getfield 249, 3) := by decide +kernel
theorem dX8_text_67 : decode cX8_text 67 = .ok (.aload_n 0, 1) := by decide +kernel
theorem dX8_text_68 : decode cX8_text 68 = .ok (.getfield 243, 3) := by decide +kernel
theorem dX8_text_71 : decode cX8_text 71 = .ok (.if_icmp .ge 7, 3) := by decide +kernel
theorem dX8_text_74 : decode cX8_text 74 = .ok (.iconst 1, 1) := by decide +kernel
theorem dX8_text_75 : decode cX8_text 75 = .ok (.goto 4, 3) := by decide +kernel
theorem dX8_text_78 : decode cX8_text 78 = .ok (.iconst 0, 1) := by decide +kernel
theorem dX8_text_79 : decode cX8_text 79 = .ok (.putfield 255, 3) := by decide +kernel
theorem dX8_text_82 : decode cX8_text 82 = .ok (.aload_n 0, 1) := by decide +kernel
theorem dX8_text_83 : decode cX8_text 83 = .ok (.iconst 0, 1) := by decide +kernel
theorem dX8_text_84 : decode cX8_text 84 = .ok (.putfield 243, 3) := by decide +kernel
theorem dX8_text_87 : decode cX8_text 87 = .ok (.aload_n 0, 1) := by decide +kernel
theorem dX8_text_88 : decode cX8_text 88 = .ok (.getfield 255, 3) := by decide +kernel
theorem dX8_text_91 : decode cX8_text 91 = .ok (.ifCond .ne 5, 3) := by decide +kernel
theorem dX8_text_94 : decode cX8_text 94 = .ok (.iload_n 1, 1) := by decide +kernel
theorem dX8_text_95 : decode cX8_text 95 = .ok (.ireturn, 1) := by decide +kernel
theorem dX8_text_96 : decode cX8_text 96 = .ok (.aload_n 0, 1) := by decide +kernel
theorem dX8_text_97 : decode cX8_text 97 = .ok (.invokevirtual 202, 3) := by decide +kernel
theorem dX8_text_100 : decode cX8_text 100 = .ok (.iconst (-1), 1) := by decide +kernel
theorem dX8_text_101 : decode cX8_text 101 = .ok (.aload_n 0, 1) := by decide +kernel
theorem dX8_text_102 : decode cX8_text 102 = .ok (.getfield 249, 3) := by decide +kernel
theorem dX8_text_105 : decode cX8_text 105 = .ok (.isub, 1) := by decide +kernel
theorem dX8_text_106 : decode cX8_text 106 = .ok (.ireturn, 1) := by decide +kernel
theorem dX8_hold_0 : decode cX8_hold 0 = .ok (.iload_n 1, 1) := by decide +kernel
theorem dX8_hold_1 : decode cX8_hold 1 = .ok (.i2l, 1) := by decide +kernel
theorem dX8_hold_2 : decode cX8_hold 2 = .ok (.lconst 0, 1) := by decide +kernel
theorem dX8_hold_3 : decode cX8_hold 3 = .ok (.ldc2_w 209, 3) := by decide +kernel
theorem dX8_hold_6 : decode cX8_hold 6 = .ok (.invokestatic 54, 3) := by decide +kernel
theorem dX8_hold_9 : decode cX8_hold 9 = .ok (.ifCond .eq 24, 3) := by decide +kernel
theorem dX8_hold_12 : decode cX8_hold 12 = .ok (.iload_n 2, 1) := by decide +kernel
theorem dX8_hold_13 : decode cX8_hold 13 = .ok (.i2l, 1) := by decide +kernel
theorem dX8_hold_14 : decode cX8_hold 14 = .ok (.ldc2_w 207, 3) := by decide +kernel
theorem dX8_hold_17 : decode cX8_hold 17 = .ok (.aload_n 0, 1) := by decide +kernel
theorem dX8_hold_18 : decode cX8_hold 18 = .ok (.getfield 9, 3) := by decide +kernel
theorem dX8_hold_21 : decode cX8_hold 21 = .ok (.bipush 11, 2) := by decide +kernel
theorem dX8_hold_23 : decode cX8_hold 23 = .ok (.iaload, 1) := by decide +kernel
theorem dX8_hold_24 : decode cX8_hold 24 = .ok (.iconst 1, 1) := by decide +kernel
theorem dX8_hold_25 : decode cX8_hold 25 = .ok (.isub, 1) := by decide +kernel
theorem dX8_hold_26 : decode cX8_hold 26 = .ok (.i2l, 1) := by decide +kernel
theorem dX8_hold_27 : decode cX8_hold 27 = .ok (.invokestatic 54, 3) := by decide +kernel
theorem dX8_hold_30 : decode cX8_hold 30 = .ok (.ifCond .ne 9, 3) := by decide +kernel
theorem dX8_hold_33 : decode cX8_hold 33 = .ok (.aload_n 0, 1) := by decide +kernel
theorem dX8_hold_34 : decode cX8_hold 34 = .ok (.iconst 0, 1) := by decide +kernel
theorem dX8_hold_35 : decode cX8_hold 35 = .ok (.invokevirtual 74, 3) := by decide +kernel
theorem dX8_hold_38 : decode cX8_hold 38 = .ok (.ireturn, 1) := by decide +kernel
theorem dX8_hold_39 : decode cX8_hold 39 = .ok (.aload_n 0, 1) := by decide +kernel
theorem dX8_hold_40 : decode cX8_hold 40 = .ok (.getfield 9, 3) := by decide +kernel
theorem dX8_hold_43 : decode cX8_hold 43 = .ok (.bipush 18, 2) := by decide +kernel
theorem dX8_hold_45 : decode cX8_hold 45 = .ok (.iload_n 1, 1) := by decide +kernel
theorem dX8_hold_46 : decode cX8_hold 46 = .ok (.iadd, 1) := by decide +kernel
theorem dX8_hold_47 : decode cX8_hold 47 = .ok (.iload_n 2, 1) := by decide +kernel
theorem dX8_hold_48 : decode cX8_hold 48 = .ok (.iastore, 1) := by decide +kernel
theorem dX8_hold_49 : decode cX8_hold 49 = .ok (.iconst 1, 1) := by decide +kernel
theorem dX8_hold_50 : decode cX8_hold 50 = .ok (.ireturn, 1) := by decide +kernel
theorem dX8_as_0 : decode cX8_as 0 = .ok (.iload_n 1, 1) := by decide +kernel
theorem dX8_as_1 : decode cX8_as 1 = .ok (.i2l, 1) := by decide +kernel
theorem dX8_as_2 : decode cX8_as 2 = .ok (.lconst 0, 1) := by decide +kernel
theorem dX8_as_3 : decode cX8_as 3 = .ok (.ldc2_w 209, 3) := by decide +kernel
theorem dX8_as_6 : decode cX8_as 6 = .ok (.invokestatic 54, 3) := by decide +kernel
theorem dX8_as_9 : decode cX8_as 9 = .ok (.ifCond .eq 10, 3) := by decide +kernel
theorem dX8_as_12 : decode cX8_as 12 = .ok (.iload_n 2, 1) := by decide +kernel
theorem dX8_as_13 : decode cX8_as 13 = .ok (.invokestatic 83, 3) := by decide +kernel
theorem dX8_as_16 : decode cX8_as 16 = .ok (.ifCond .ne 9, 3) := by decide +kernel
theorem dX8_as_19 : decode cX8_as 19 = .ok (.aload_n 0, 1) := by decide +kernel
theorem dX8_as_20 : decode cX8_as 20 = .ok (.iconst 0, 1) := by decide +kernel
theorem dX8_as_21 : decode cX8_as 21 = .ok (.invokevirtual 74, 3) := by decide +kernel
theorem dX8_as_24 : decode cX8_as 24 = .ok (.ireturn, 1) := by decide +kernel
theorem dX8_as_25 : decode cX8_as 25 = .ok (.aload_n 0, 1) := by decide +kernel
theorem dX8_as_26 : decode cX8_as 26 = .ok (.getfield 9, 3) := by decide +kernel
theorem dX8_as_29 : decode cX8_as 29 = .ok (.bipush 18, 2) := by decide +kernel
theorem dX8_as_31 : decode cX8_as 31 = .ok (.iload_n 1, 1) := by decide +kernel
theorem dX8_as_32 : decode cX8_as 32 = .ok (.iadd, 1) := by decide +kernel
theorem dX8_as_33 : decode cX8_as 33 = .ok (.iaload, 1) := by decide +kernel
theorem dX8_as_34 : decode cX8_as 34 = .ok (.istore_n 3, 1) := by decide +kernel
theorem dX8_as_35 : decode cX8_as 35 = .ok (.iload_n 3, 1) := by decide +kernel
theorem dX8_as_36 : decode cX8_as 36 = .ok (.ifCond .ge 9, 3) := by decide +kernel
theorem dX8_as_39 : decode cX8_as 39 = .ok (.aload_n 0, 1) := by decide +kernel
theorem dX8_as_40 : decode cX8_as 40 = .ok (.iconst 5, 1) := by decide +kernel
theorem dX8_as_41 : decode cX8_as 41 = .ok (.invokevirtual 74, 3) := by decide +kernel
theorem dX8_as_44 : decode cX8_as 44 = .ok (.ireturn, 1) := by decide +kernel
theorem dX8_as_45 : decode cX8_as 45 = .ok (.aload_n 0, 1) := by decide +kernel
theorem dX8_as_46 : decode cX8_as 46 = .ok (.getfield 9, 3) := by decide +kernel
theorem dX8_as_49 : decode cX8_as 49 = .ok (.bipush 28, 2) := by decide +kernel
theorem dX8_as_51 : decode cX8_as 51 = .ok (.iload_n 3, 1) := by decide +kernel
theorem dX8_as_52 : decode cX8_as 52 = .ok (.iadd, 1) := by decide +kernel
theorem dX8_as_53 : decode cX8_as 53 = .ok (.iaload, 1) := by decide +kernel
theorem dX8_as_54 : decode cX8_as 54 = .ok (.iload_n 2, 1) := by decide +kernel
theorem dX8_as_55 : decode cX8_as 55 = .ok (.invokestatic 346, 3) := by decide +kernel
theorem dX8_as_58 : decode cX8_as 58 = .ok (.ifCond .eq 7, 3) := by decide +kernel
theorem dX8_as_61 : decode cX8_as 61 = .ok (.iload_n 3, 1) := by decide +kernel
theorem dX8_as_62 : decode cX8_as 62 = .ok (.goto 8, 3) := by decide +kernel
theorem dX8_as_65 : decode cX8_as 65 = .ok (.aload_n 0, 1) := by decide +kernel
theorem dX8_as_66 : decode cX8_as 66 = .ok (.iconst 2, 1) := by decide +kernel
theorem dX8_as_67 : decode cX8_as 67 = .ok (.invokevirtual 74, 3) := by decide +kernel
theorem dX8_as_70 : decode cX8_as 70 = .ok (.ireturn, 1) := by decide +kernel
theorem dX8_isSheet_0 : decode cX8_isSheet 0 = .ok (.iload_n 0, 1) := by decide +kernel
theorem dX8_isSheet_1 : decode cX8_isSheet 1 = .ok (.i2l, 1) := by decide +kernel
theorem dX8_isSheet_2 : decode cX8_isSheet 2 = .ok (.lconst 0, 1) := by decide +kernel
theorem dX8_isSheet_3 : decode cX8_isSheet 3 = .ok (.ldc2_w 349, 3) := by decide +kernel
theorem dX8_isSheet_6 : decode cX8_isSheet 6 = .ok (.invokestatic 54, 3) := by decide +kernel
theorem dX8_isSheet_9 : decode cX8_isSheet 9 = .ok (.ireturn, 1) := by decide +kernel
theorem dX8_cut_0 : decode cX8_cut 0 = .ok (.iload_n 1, 1) := by decide +kernel
theorem dX8_cut_1 : decode cX8_cut 1 = .ok (.bipush 8, 2) := by decide +kernel
theorem dX8_cut_3 : decode cX8_cut 3 = .ok (.if_icmp .ne 8, 3) := by decide +kernel
theorem dX8_cut_6 : decode cX8_cut 6 = .ok (.iload_n 0, 1) := by decide +kernel
theorem dX8_cut_7 : decode cX8_cut 7 = .ok (.i2b, 1) := by decide +kernel
theorem dX8_cut_8 : decode cX8_cut 8 = .ok (.goto 15, 3) := by decide +kernel
theorem dX8_cut_11 : decode cX8_cut 11 = .ok (.iload_n 1, 1) := by decide +kernel
theorem dX8_cut_12 : decode cX8_cut 12 = .ok (.bipush 16, 2) := by decide +kernel
theorem dX8_cut_14 : decode cX8_cut 14 = .ok (.if_icmp .ne 8, 3) := by decide +kernel
theorem dX8_cut_17 : decode cX8_cut 17 = .ok (.iload_n 0, 1) := by decide +kernel
theorem dX8_cut_18 : decode cX8_cut 18 = .ok (.i2s, 1) := by decide +kernel
theorem dX8_cut_19 : decode cX8_cut 19 = .ok (.goto 4, 3) := by decide +kernel
theorem dX8_cut_22 : decode cX8_cut 22 = .ok (.iload_n 0, 1) := by decide +kernel
theorem dX8_cut_23 : decode cX8_cut 23 = .ok (.ireturn, 1) := by decide +kernel
theorem dX8_sheet_0 : decode cX8_sheet 0 = .ok (.iload_n 2, 1) := by decide +kernel
theorem dX8_sheet_1 : decode cX8_sheet 1 = .ok (.ifCond .eq 21, 3) := by decide +kernel
theorem dX8_sheet_4 : decode cX8_sheet 4 = .ok (.iload_n 2, 1) := by decide +kernel
theorem dX8_sheet_5 : decode cX8_sheet 5 = .ok (.bipush 8, 2) := by decide +kernel
theorem dX8_sheet_7 : decode cX8_sheet 7 = .ok (.if_icmp .eq 15, 3) := by decide +kernel
theorem dX8_sheet_10 : decode cX8_sheet 10 = .ok (.iload_n 2, 1) := by decide +kernel
theorem dX8_sheet_11 : decode cX8_sheet 11 = .ok (.bipush 16, 2) := by decide +kernel
theorem dX8_sheet_13 : decode cX8_sheet 13 = .ok (.if_icmp .eq 9, 3) := by decide +kernel
theorem dX8_sheet_16 : decode cX8_sheet 16 = .ok (.iload_n 2, 1) := by decide +kernel
theorem dX8_sheet_17 : decode cX8_sheet 17 = .ok (.bipush 32, 2) := by decide +kernel
theorem dX8_sheet_19 : decode cX8_sheet 19 = .ok (.if_icmp .ne 7, 3) := by decide +kernel
theorem dX8_sheet_22 : decode cX8_sheet 22 = .ok (.iconst 1, 1) := by decide +kernel
theorem dX8_sheet_23 : decode cX8_sheet 23 = .ok (.goto 4, 3) := by decide +kernel
theorem dX8_sheet_26 : decode cX8_sheet 26 = .ok (.iconst 0, 1) := by decide +kernel
theorem dX8_sheet_27 : decode cX8_sheet 27 = .ok (.istore 4, 2) := by decide +kernel
theorem dX8_sheet_29 : decode cX8_sheet 29 = .ok (.iload_n 1, 1) := by decide +kernel
theorem dX8_sheet_30 : decode cX8_sheet 30 = .ok (.invokestatic 351, 3) := by decide +kernel
theorem dX8_sheet_33 : decode cX8_sheet 33 = .ok (.ifCond .eq 8, 3) := by decide +kernel
theorem dX8_sheet_36 : decode cX8_sheet 36 = .ok (.iload 4, 2) := by decide +kernel
theorem dX8_sheet_38 : decode cX8_sheet 38 = .ok (.ifCond .ne 9, 3) := by decide +kernel
theorem dX8_sheet_41 : decode cX8_sheet 41 = .ok (.aload_n 0, 1) := by decide +kernel
theorem dX8_sheet_42 : decode cX8_sheet 42 = .ok (.iconst 0, 1) := by decide +kernel
theorem dX8_sheet_43 : decode cX8_sheet 43 = .ok (.invokevirtual 74, 3) := by decide +kernel
theorem dX8_sheet_46 : decode cX8_sheet 46 = .ok (.ireturn, 1) := by decide +kernel
theorem dX8_sheet_47 : decode cX8_sheet 47 = .ok (.iload_n 3, 1) := by decide +kernel
theorem dX8_sheet_48 : decode cX8_sheet 48 = .ok (.ifCond .ge 10, 3) := by decide +kernel
theorem dX8_sheet_51 : decode cX8_sheet 51 = .ok (.aload_n 0, 1) := by decide +kernel
theorem dX8_sheet_52 : decode cX8_sheet 52 = .ok (.bipush 6, 2) := by decide +kernel
theorem dX8_sheet_54 : decode cX8_sheet 54 = .ok (.invokevirtual 74, 3) := by decide +kernel
theorem dX8_sheet_57 : decode cX8_sheet 57 = .ok (.ireturn, 1) := by decide +kernel
theorem dX8_sheet_58 : decode cX8_sheet 58 = .ok (.iload_n 3, 1) := by decide +kernel
theorem dX8_sheet_59 : decode cX8_sheet 59 = .ok (.bipush 40, 2) := by decide +kernel
theorem dX8_sheet_61 : decode cX8_sheet 61 = .ok (.if_icmp .le 9, 3) := by decide +kernel
theorem dX8_sheet_64 : decode cX8_sheet 64 = .ok (.aload_n 0, 1) := by decide +kernel
theorem dX8_sheet_65 : decode cX8_sheet 65 = .ok (.iconst 0, 1) := by decide +kernel
theorem dX8_sheet_66 : decode cX8_sheet 66 = .ok (.invokevirtual 74, 3) := by decide +kernel
theorem dX8_sheet_69 : decode cX8_sheet 69 = .ok (.ireturn, 1) := by decide +kernel
theorem dX8_sheet_70 : decode cX8_sheet 70 = .ok (.aload_n 0, 1) := by decide +kernel
theorem dX8_sheet_71 : decode cX8_sheet 71 = .ok (.getfield 31, 3) := by decide +kernel
theorem dX8_sheet_74 : decode cX8_sheet 74 = .ok (.iload_n 1, 1) := by decide +kernel
theorem dX8_sheet_75 : decode cX8_sheet 75 = .ok (.iload_n 2, 1) := by decide +kernel
theorem dX8_sheet_76 : decode cX8_sheet 76 = .ok (.iastore, 1) := by decide +kernel
theorem dX8_sheet_77 : decode cX8_sheet 77 = .ok (.aload_n 0, 1) := by decide +kernel
theorem dX8_sheet_78 : decode cX8_sheet 78 = .ok (.getfield 34, 3) := by decide +kernel
theorem dX8_sheet_81 : decode cX8_sheet 81 = .ok (.iload_n 1, 1) := by decide +kernel
theorem dX8_sheet_82 : decode cX8_sheet 82 = .ok (.iload_n 2, 1) := by decide +kernel
theorem dX8_sheet_83 : decode cX8_sheet 83 = .ok (.ifCond .ne 7, 3) := by decide +kernel
theorem dX8_sheet_86 : decode cX8_sheet 86 = .ok (.iconst 0, 1) := by decide +kernel
theorem dX8_sheet_87 : decode cX8_sheet 87 = .ok (.goto 4, 3) := by decide +kernel
theorem dX8_sheet_90 : decode cX8_sheet 90 = .ok (.iload_n 3, 1) := by decide +kernel
theorem dX8_sheet_91 : decode cX8_sheet 91 = .ok (.iastore, 1) := by decide +kernel
theorem dX8_sheet_92 : decode cX8_sheet 92 = .ok (.iconst 0, 1) := by decide +kernel
theorem dX8_sheet_93 : decode cX8_sheet 93 = .ok (.istore 5, 2) := by decide +kernel
theorem dX8_sheet_95 : decode cX8_sheet 95 = .ok (.iload 5, 2) := by decide +kernel
theorem dX8_sheet_97 : decode cX8_sheet 97 = .ok (.bipush 40, 2) := by decide +kernel
theorem dX8_sheet_99 : decode cX8_sheet 99 = .ok (.if_icmp .ge 22, 3) := by decide +kernel
theorem dX8_sheet_102 : decode cX8_sheet 102 = .ok (.aload_n 0, 1) := by decide +kernel
theorem dX8_sheet_103 : decode cX8_sheet 103 = .ok (.getfield 37, 3) := by decide +kernel
theorem dX8_sheet_106 : decode cX8_sheet 106 = .ok (.bipush 40, 2) := by decide +kernel
theorem dX8_sheet_108 : decode cX8_sheet 108 = .ok (.iload_n 1, 1) := by decide +kernel
theorem dX8_sheet_109 : decode cX8_sheet 109 = .ok (.imul, 1) := by decide +kernel
theorem dX8_sheet_110 : decode cX8_sheet 110 = .ok (.iload 5, 2) := by decide +kernel
theorem dX8_sheet_112 : decode cX8_sheet 112 = .ok (.iadd, 1) := by decide +kernel
theorem dX8_sheet_113 : decode cX8_sheet 113 = .ok (.iconst 0, 1) := by decide +kernel
theorem dX8_sheet_114 : decode cX8_sheet 114 = .ok (.iastore, 1) := by decide +kernel
theorem dX8_sheet_115 : decode cX8_sheet 115 = .ok (.iinc 5 1, 3) := by decide +kernel
theorem dX8_sheet_118 : decode cX8_sheet 118 = .ok (.goto (-23), 3) := by decide +kernel
theorem dX8_sheet_121 : decode cX8_sheet 121 = .ok (.aload_n 0, 1) := by decide +kernel
theorem dX8_sheet_122 : decode cX8_sheet 122 = .ok (.getfield 34, 3) := by decide +kernel
theorem dX8_sheet_125 : decode cX8_sheet 125 = .ok (.iload_n 1, 1) := by decide +kernel
theorem dX8_sheet_126 : decode cX8_sheet 126 = .ok (.iaload, 1) := by decide +kernel
theorem dX8_sheet_127 : decode cX8_sheet 127 = .ok (.ireturn, 1) := by decide +kernel
theorem dX8_lacksOf_0 : decode cX8_lacksOf 0 = .ok (.iload_n 1, 1) := by decide +kernel
theorem dX8_lacksOf_1 : decode cX8_lacksOf 1 = .ok (.invokestatic 351, 3) := by decide +kernel
theorem dX8_lacksOf_4 : decode cX8_lacksOf 4 = .ok (.ifCond .ne 7, 3) := by decide +kernel
theorem dX8_lacksOf_7 : decode cX8_lacksOf 7 = .ok (.iconst 0, 1) := by decide +kernel
theorem dX8_lacksOf_8 : decode cX8_lacksOf 8 = .ok (.goto 17, 3) := by decide +kernel
theorem dX8_lacksOf_11 : decode cX8_lacksOf 11 = .ok (.aload_n 0, 1) := by decide +kernel
theorem dX8_lacksOf_12 : decode cX8_lacksOf 12 = .ok (.getfield 31, 3) := by decide +kernel
theorem dX8_lacksOf_15 : decode cX8_lacksOf 15 = .ok (.iload_n 1, 1) := by decide +kernel
theorem dX8_lacksOf_16 : decode cX8_lacksOf 16 = .ok (.iaload, 1) := by decide +kernel
theorem dX8_lacksOf_17 : decode cX8_lacksOf 17 = .ok (.ifCond .ne 7, 3) := by decide +kernel
theorem dX8_lacksOf_20 : decode cX8_lacksOf 20 = .ok (.iconst 5, 1) := by decide +kernel
theorem dX8_lacksOf_21 : decode cX8_lacksOf 21 = .ok (.goto 4, 3) := by decide +kernel
theorem dX8_lacksOf_24 : decode cX8_lacksOf 24 = .ok (.iconst (-1), 1) := by decide +kernel
theorem dX8_lacksOf_25 : decode cX8_lacksOf 25 = .ok (.ireturn, 1) := by decide +kernel
theorem dX8_write_0 : decode cX8_write 0 = .ok (.aload_n 0, 1) := by decide +kernel
theorem dX8_write_1 : decode cX8_write 1 = .ok (.iload_n 1, 1) := by decide +kernel
theorem dX8_write_2 : decode cX8_write 2 = .ok (.invokevirtual 354, 3) := by decide +kernel
theorem dX8_write_5 : decode cX8_write 5 = .ok (.istore 4, 2) := by decide +kernel
theorem dX8_write_7 : decode cX8_write 7 = .ok (.iload 4, 2) := by decide +kernel
theorem dX8_write_9 : decode cX8_write 9 = .ok (.ifCond .lt 10, 3) := by decide +kernel
theorem dX8_write_12 : decode cX8_write 12 = .ok (.aload_n 0, 1) := by decide +kernel
theorem dX8_write_13 : decode cX8_write 13 = .ok (.iload 4, 2) := by decide +kernel
theorem dX8_write_15 : decode cX8_write 15 = .ok (.invokevirtual 74, 3) := by decide +kernel
theorem dX8_write_18 : decode cX8_write 18 = .ok (.ireturn, 1) := by decide +kernel
theorem dX8_write_19 : decode cX8_write 19 = .ok (.iload_n 2, 1) := by decide +kernel
theorem dX8_write_20 : decode cX8_write 20 = .ok (.i2l, 1) := by decide +kernel
theorem dX8_write_21 : decode cX8_write 21 = .ok (.lconst 0, 1) := by decide +kernel
theorem dX8_write_22 : decode cX8_write 22 = .ok (.aload_n 0, 1) := by decide +kernel
theorem dX8_write_23 : decode cX8_write 23 = .ok (.getfield 34, 3) := by decide +kernel
theorem dX8_write_26 : decode cX8_write 26 = .ok (.iload_n 1, 1) := by decide +kernel
theorem dX8_write_27 : decode cX8_write 27 = .ok (.iaload, 1) := by decide +kernel
theorem dX8_write_28 : decode cX8_write 28 = .ok (.iconst 1, 1) := by decide +kernel
theorem dX8_write_29 : decode cX8_write 29 = .ok (.isub, 1) := by decide +kernel
theorem dX8_write_30 : decode cX8_write 30 = .ok (.i2l, 1) := by decide +kernel
theorem dX8_write_31 : decode cX8_write 31 = .ok (.invokestatic 54, 3) := by decide +kernel
theorem dX8_write_34 : decode cX8_write 34 = .ok (.ifCond .ne 9, 3) := by decide +kernel
theorem dX8_write_37 : decode cX8_write 37 = .ok (.aload_n 0, 1) := by decide +kernel
theorem dX8_write_38 : decode cX8_write 38 = .ok (.iconst 0, 1) := by decide +kernel
theorem dX8_write_39 : decode cX8_write 39 = .ok (.invokevirtual 74, 3) := by decide +kernel
theorem dX8_write_42 : decode cX8_write 42 = .ok (.ireturn, 1) := by decide +kernel
theorem dX8_write_43 : decode cX8_write 43 = .ok (.aload_n 0, 1) := by decide +kernel
theorem dX8_write_44 : decode cX8_write 44 = .ok (.getfield 37, 3) := by decide +kernel
theorem dX8_write_47 : decode cX8_write 47 = .ok (.bipush 40, 2) := by decide +kernel
theorem dX8_write_49 : decode cX8_write 49 = .ok (.iload_n 1, 1) := by decide +kernel
theorem dX8_write_50 : decode cX8_write 50 = .ok (.imul, 1) := by decide +kernel
theorem dX8_write_51 : decode cX8_write 51 = .ok (.iload_n 2, 1) := by decide +kernel
theorem dX8_write_52 : decode cX8_write 52 = .ok (.iadd, 1) := by decide +kernel
theorem dX8_write_53 : decode cX8_write 53 = .ok (.iload_n 3, 1) := by decide +kernel
theorem dX8_write_54 : decode cX8_write 54 = .ok (.aload_n 0, 1) := by decide +kernel
theorem dX8_write_55 : decode cX8_write 55 = .ok (.getfield 31, 3) := by decide +kernel
theorem dX8_write_58 : decode cX8_write 58 = .ok (.iload_n 1, 1) := by decide +kernel
theorem dX8_write_59 : decode cX8_write 59 = .ok (.iaload, 1) := by decide +kernel
theorem dX8_write_60 : decode cX8_write 60 = .ok (.invokestatic 357, 3) := by decide +kernel
theorem dX8_write_63 : decode cX8_write 63 = .ok (.iastore, 1) := by decide +kernel
theorem dX8_write_64 : decode cX8_write 64 = .ok (.iconst 1, 1) := by decide +kernel
theorem dX8_write_65 : decode cX8_write 65 = .ok (.ireturn, 1) := by decide +kernel
theorem dX8_copy_0 : decode cX8_copy 0 = .ok (.iload_n 1, 1) := by decide +kernel
theorem dX8_copy_1 : decode cX8_copy 1 = .ok (.invokestatic 351, 3) := by decide +kernel
theorem dX8_copy_4 : decode cX8_copy 4 = .ok (.ifCond .eq 10, 3) := by decide +kernel
theorem dX8_copy_7 : decode cX8_copy 7 = .ok (.iload_n 3, 1) := by decide +kernel
theorem dX8_copy_8 : decode cX8_copy 8 = .ok (.invokestatic 351, 3) := by decide +kernel
theorem dX8_copy_11 : decode cX8_copy 11 = .ok (.ifCond .ne 9, 3) := by decide +kernel
theorem dX8_copy_14 : decode cX8_copy 14 = .ok (.aload_n 0, 1) := by decide +kernel
theorem dX8_copy_15 : decode cX8_copy 15 = .ok (.iconst 0, 1) := by decide +kernel
theorem dX8_copy_16 : decode cX8_copy 16 = .ok (.invokevirtual 74, 3) := by decide +kernel
theorem dX8_copy_19 : decode cX8_copy 19 = .ok (.ireturn, 1) := by decide +kernel
theorem dX8_copy_20 : decode cX8_copy 20 = .ok (.aload_n 0, 1) := by decide +kernel
theorem dX8_copy_21 : decode cX8_copy 21 = .ok (.getfield 31, 3) := by decide +kernel
theorem dX8_copy_24 : decode cX8_copy 24 = .ok (.iload_n 1, 1) := by decide +kernel
theorem dX8_copy_25 : decode cX8_copy 25 = .ok (.iaload, 1) := by decide +kernel
theorem dX8_copy_26 : decode cX8_copy 26 = .ok (.ifCond .eq 12, 3) := by decide +kernel
theorem dX8_copy_29 : decode cX8_copy 29 = .ok (.aload_n 0, 1) := by decide +kernel
theorem dX8_copy_30 : decode cX8_copy 30 = .ok (.getfield 31, 3) := by decide +kernel
theorem dX8_copy_33 : decode cX8_copy 33 = .ok (.iload_n 3, 1) := by decide +kernel
theorem dX8_copy_34 : decode cX8_copy 34 = .ok (.iaload, 1) := by decide +kernel
theorem dX8_copy_35 : decode cX8_copy 35 = .ok (.ifCond .ne 9, 3) := by decide +kernel
theorem dX8_copy_38 : decode cX8_copy 38 = .ok (.aload_n 0, 1) := by decide +kernel
theorem dX8_copy_39 : decode cX8_copy 39 = .ok (.iconst 5, 1) := by decide +kernel
theorem dX8_copy_40 : decode cX8_copy 40 = .ok (.invokevirtual 74, 3) := by decide +kernel
theorem dX8_copy_43 : decode cX8_copy 43 = .ok (.ireturn, 1) := by decide +kernel
theorem dX8_copy_44 : decode cX8_copy 44 = .ok (.aload_n 0, 1) := by decide +kernel
theorem dX8_copy_45 : decode cX8_copy 45 = .ok (.getfield 31, 3) := by decide +kernel
theorem dX8_copy_48 : decode cX8_copy 48 = .ok (.iload_n 1, 1) := by decide +kernel
theorem dX8_copy_49 : decode cX8_copy 49 = .ok (.iaload, 1) := by decide +kernel
theorem dX8_copy_50 : decode cX8_copy 50 = .ok (.aload_n 0, 1) := by decide +kernel
theorem dX8_copy_51 : decode cX8_copy 51 = .ok (.getfield 31, 3) := by decide +kernel
theorem dX8_copy_54 : decode cX8_copy 54 = .ok (.iload_n 3, 1) := by decide +kernel
theorem dX8_copy_55 : decode cX8_copy 55 = .ok (.iaload, 1) := by decide +kernel
theorem dX8_copy_56 : decode cX8_copy 56 = .ok (.if_icmp .eq 9, 3) := by decide +kernel
theorem dX8_copy_59 : decode cX8_copy 59 = .ok (.aload_n 0, 1) := by decide +kernel
theorem dX8_copy_60 : decode cX8_copy 60 = .ok (.iconst 2, 1) := by decide +kernel
theorem dX8_copy_61 : decode cX8_copy 61 = .ok (.invokevirtual 74, 3) := by decide +kernel
theorem dX8_copy_64 : decode cX8_copy 64 = .ok (.ireturn, 1) := by decide +kernel
theorem dX8_copy_65 : decode cX8_copy 65 = .ok (.iload 5, 2) := by decide +kernel
theorem dX8_copy_67 : decode cX8_copy 67 = .ok (.ifCond .lt 51, 3) := by decide +kernel
theorem dX8_copy_70 : decode cX8_copy 70 = .ok (.iload_n 2, 1) := by decide +kernel
theorem dX8_copy_71 : decode cX8_copy 71 = .ok (.ifCond .lt 47, 3) := by decide +kernel
theorem dX8_copy_74 : decode cX8_copy 74 = .ok (.iload 4, 2) := by decide +kernel
theorem dX8_copy_76 : decode cX8_copy 76 = .ok (.ifCond .lt 42, 3) := by decide +kernel
theorem dX8_copy_79 : decode cX8_copy 79 = .ok (.iload_n 2, 1) := by decide +kernel
theorem dX8_copy_80 : decode cX8_copy 80 = .ok (.i2l, 1) := by decide +kernel
theorem dX8_copy_81 : decode cX8_copy 81 = .ok (.iload 5, 2) := by decide +kernel
theorem dX8_copy_83 : decode cX8_copy 83 = .ok (.i2l, 1) := by decide +kernel
theorem dX8_copy_84 : decode cX8_copy 84 = .ok (.ladd, 1) := by decide +kernel
theorem dX8_copy_85 : decode cX8_copy 85 = .ok (.aload_n 0, 1) := by decide +kernel
theorem dX8_copy_86 : decode cX8_copy 86 = .ok (.getfield 34, 3) := by decide +kernel
theorem dX8_copy_89 : decode cX8_copy 89 = .ok (.iload_n 1, 1) := by decide +kernel
theorem dX8_copy_90 : decode cX8_copy 90 = .ok (.iaload, 1) := by decide +kernel
theorem dX8_copy_91 : decode cX8_copy 91 = .ok (.i2l, 1) := by decide +kernel
theorem dX8_copy_92 : decode cX8_copy 92 = .ok (.lcmp, 1) := by decide +kernel
theorem dX8_copy_93 : decode cX8_copy 93 = .ok (.ifCond .gt 25, 3) := by decide +kernel
theorem dX8_copy_96 : decode cX8_copy 96 = .ok (.iload 4, 2) := by decide +kernel
theorem dX8_copy_98 : decode cX8_copy 98 = .ok (.i2l, 1) := by decide +kernel
theorem dX8_copy_99 : decode cX8_copy 99 = .ok (.iload 5, 2) := by decide +kernel
theorem dX8_copy_101 : decode cX8_copy 101 = .ok (.i2l, 1) := by decide +kernel
theorem dX8_copy_102 : decode cX8_copy 102 = .ok (.ladd, 1) := by decide +kernel
theorem dX8_copy_103 : decode cX8_copy 103 = .ok (.aload_n 0, 1) := by decide +kernel
theorem dX8_copy_104 : decode cX8_copy 104 = .ok (.getfield 34, 3) := by decide +kernel
theorem dX8_copy_107 : decode cX8_copy 107 = .ok (.iload_n 3, 1) := by decide +kernel
theorem dX8_copy_108 : decode cX8_copy 108 = .ok (.iaload, 1) := by decide +kernel
theorem dX8_copy_109 : decode cX8_copy 109 = .ok (.i2l, 1) := by decide +kernel
theorem dX8_copy_110 : decode cX8_copy 110 = .ok (.lcmp, 1) := by decide +kernel
theorem dX8_copy_111 : decode cX8_copy 111 = .ok (.ifCond .gt 7, 3) := by decide +kernel
theorem dX8_copy_114 : decode cX8_copy 114 = .ok (.iconst 1, 1) := by decide +kernel
theorem dX8_copy_115 : decode cX8_copy 115 = .ok (.goto 4, 3) := by decide +kernel
theorem dX8_copy_118 : decode cX8_copy 118 = .ok (.iconst 0, 1) := by decide +kernel
theorem dX8_copy_119 : decode cX8_copy 119 = .ok (.istore 6, 2) := by decide +kernel
theorem dX8_copy_121 : decode cX8_copy 121 = .ok (.iload 6, 2) := by decide +kernel
theorem dX8_copy_123 : decode cX8_copy 123 = .ok (.ifCond .ne 9, 3) := by decide +kernel
theorem dX8_copy_126 : decode cX8_copy 126 = .ok (.aload_n 0, 1) := by decide +kernel
theorem dX8_copy_127 : decode cX8_copy 127 = .ok (.iconst 0, 1) := by decide +kernel
theorem dX8_copy_128 : decode cX8_copy 128 = .ok (.invokevirtual 74, 3) := by decide +kernel
theorem dX8_copy_131 : decode cX8_copy 131 = .ok (.ireturn, 1) := by decide +kernel
theorem dX8_copy_132 : decode cX8_copy 132 = .ok (.iconst 0, 1) := by decide +kernel
theorem dX8_copy_133 : decode cX8_copy 133 = .ok (.istore 7, 2) := by decide +kernel
theorem dX8_copy_135 : decode cX8_copy 135 = .ok (.iload 7, 2) := by decide +kernel
theorem dX8_copy_137 : decode cX8_copy 137 = .ok (.iload 5, 2) := by decide +kernel
theorem dX8_copy_139 : decode cX8_copy 139 = .ok (.if_icmp .ge 30, 3) := by decide +kernel
theorem dX8_copy_142 : decode cX8_copy 142 = .ok (.aload_n 0, 1) := by decide +kernel
theorem dX8_copy_143 : decode cX8_copy 143 = .ok (.getfield 40, 3) := by decide +kernel
theorem dX8_copy_146 : decode cX8_copy 146 = .ok (.iload 7, 2) := by decide +kernel
theorem dX8_copy_148 : decode cX8_copy 148 = .ok (.aload_n 0, 1) := by decide +kernel
theorem dX8_copy_149 : decode cX8_copy 149 = .ok (.getfield 37, 3) := by decide +kernel
theorem dX8_copy_152 : decode cX8_copy 152 = .ok (.bipush 40, 2) := by decide +kernel
theorem dX8_copy_154 : decode cX8_copy 154 = .ok (.iload_n 1, 1) := by decide +kernel
theorem dX8_copy_155 : decode cX8_copy 155 = .ok (.imul, 1) := by decide +kernel
theorem dX8_copy_156 : decode cX8_copy 156 = .ok (.iload_n 2, 1) := by decide +kernel
theorem dX8_copy_157 : decode cX8_copy 157 = .ok (.iadd, 1) := by decide +kernel
theorem dX8_copy_158 : decode cX8_copy 158 = .ok (.iload 7, 2) := by decide +kernel
theorem dX8_copy_160 : decode cX8_copy 160 = .ok (.iadd, 1) := by decide +kernel
theorem dX8_copy_161 : decode cX8_copy 161 = .ok (.iaload, 1) := by decide +kernel
theorem dX8_copy_162 : decode cX8_copy 162 = .ok (.iastore, 1) := by decide +kernel
theorem dX8_copy_163 : decode cX8_copy 163 = .ok (.iinc 7 1, 3) := by decide +kernel
theorem dX8_copy_166 : decode cX8_copy 166 = .ok (.goto (-31), 3) := by decide +kernel
theorem dX8_copy_169 : decode cX8_copy 169 = .ok (.iconst 0, 1) := by decide +kernel
theorem dX8_copy_170 : decode cX8_copy 170 = .ok (.istore 7, 2) := by decide +kernel
theorem dX8_copy_172 : decode cX8_copy 172 = .ok (.iload 7, 2) := by decide +kernel
theorem dX8_copy_174 : decode cX8_copy 174 = .ok (.iload 5, 2) := by decide +kernel
theorem dX8_copy_176 : decode cX8_copy 176 = .ok (.if_icmp .ge 31, 3) := by decide +kernel
theorem dX8_copy_179 : decode cX8_copy 179 = .ok (.aload_n 0, 1) := by decide +kernel
theorem dX8_copy_180 : decode cX8_copy 180 = .ok (.getfield 37, 3) := by decide +kernel
theorem dX8_copy_183 : decode cX8_copy 183 = .ok (.bipush 40, 2) := by decide +kernel
theorem dX8_copy_185 : decode cX8_copy 185 = .ok (.iload_n 3, 1) := by decide +kernel
theorem dX8_copy_186 : decode cX8_copy 186 = .ok (.imul, 1) := by decide +kernel
theorem dX8_copy_187 : decode cX8_copy 187 = .ok (.iload 4, 2) := by decide +kernel
theorem dX8_copy_189 : decode cX8_copy 189 = .ok (.iadd, 1) := by decide +kernel
theorem dX8_copy_190 : decode cX8_copy 190 = .ok (.iload 7, 2) := by decide +kernel
theorem dX8_copy_192 : decode cX8_copy 192 = .ok (.iadd, 1) := by decide +kernel
theorem dX8_copy_193 : decode cX8_copy 193 = .ok (.aload_n 0, 1) := by decide +kernel
theorem dX8_copy_194 : decode cX8_copy 194 = .ok (.getfield 40, 3) := by decide +kernel
theorem dX8_copy_197 : decode cX8_copy 197 = .ok (.iload 7, 2) := by decide +kernel
theorem dX8_copy_199 : decode cX8_copy 199 = .ok (.iaload, 1) := by decide +kernel
theorem dX8_copy_200 : decode cX8_copy 200 = .ok (.iastore, 1) := by decide +kernel
theorem dX8_copy_201 : decode cX8_copy 201 = .ok (.iinc 7 1, 3) := by decide +kernel
theorem dX8_copy_204 : decode cX8_copy 204 = .ok (.goto (-32), 3) := by decide +kernel
theorem dX8_copy_207 : decode cX8_copy 207 = .ok (.iload 5, 2) := by decide +kernel
theorem dX8_copy_209 : decode cX8_copy 209 = .ok (.ireturn, 1) := by decide +kernel
theorem dX8_load_0 : decode cX8_load 0 = .ok (.aload_n 0, 1) := by decide +kernel
theorem dX8_load_1 : decode cX8_load 1 = .ok (.iload_n 1, 1) := by decide +kernel
theorem dX8_load_2 : decode cX8_load 2 = .ok (.invokevirtual 354, 3) := by decide +kernel
theorem dX8_load_5 : decode cX8_load 5 = .ok (.istore_n 2, 1) := by decide +kernel
theorem dX8_load_6 : decode cX8_load 6 = .ok (.iload_n 2, 1) := by decide +kernel
theorem dX8_load_7 : decode cX8_load 7 = .ok (.ifCond .lt 9, 3) := by decide +kernel
theorem dX8_load_10 : decode cX8_load 10 = .ok (.aload_n 0, 1) := by decide +kernel
theorem dX8_load_11 : decode cX8_load 11 = .ok (.iload_n 2, 1) := by decide +kernel
theorem dX8_load_12 : decode cX8_load 12 = .ok (.invokevirtual 74, 3) := by decide +kernel
theorem dX8_load_15 : decode cX8_load 15 = .ok (.ireturn, 1) := by decide +kernel
theorem dX8_load_16 : decode cX8_load 16 = .ok (.iconst 0, 1) := by decide +kernel
theorem dX8_load_17 : decode cX8_load 17 = .ok (.istore_n 3, 1) := by decide +kernel
theorem dX8_load_18 : decode cX8_load 18 = .ok (.iload_n 3, 1) := by decide +kernel
theorem dX8_load_19 : decode cX8_load 19 = .ok (.aload_n 0, 1) := by decide +kernel
theorem dX8_load_20 : decode cX8_load 20 = .ok (.getfield 34, 3) := by decide +kernel
theorem dX8_load_23 : decode cX8_load 23 = .ok (.iload_n 1, 1) := by decide +kernel
theorem dX8_load_24 : decode cX8_load 24 = .ok (.iaload, 1) := by decide +kernel
theorem dX8_load_25 : decode cX8_load 25 = .ok (.if_icmp .ge 57, 3) := by decide +kernel
theorem dX8_load_28 : decode cX8_load 28 = .ok (.iload_n 3, 1) := by decide +kernel
theorem dX8_load_29 : decode cX8_load 29 = .ok (.aload_n 0, 1) := by decide +kernel
theorem dX8_load_30 : decode cX8_load 30 = .ok (.getfield 9, 3) := by decide +kernel
theorem dX8_load_33 : decode cX8_load 33 = .ok (.bipush 11, 2) := by decide +kernel
theorem dX8_load_35 : decode cX8_load 35 = .ok (.iaload, 1) := by decide +kernel
theorem dX8_load_36 : decode cX8_load 36 = .ok (.if_icmp .ge 46, 3) := by decide +kernel
theorem dX8_load_39 : decode cX8_load 39 = .ok (.aload_n 0, 1) := by decide +kernel
theorem dX8_load_40 : decode cX8_load 40 = .ok (.getfield 37, 3) := by decide +kernel
theorem dX8_load_43 : decode cX8_load 43 = .ok (.bipush 40, 2) := by decide +kernel
theorem dX8_load_45 : decode cX8_load 45 = .ok (.iload_n 1, 1) := by decide +kernel
theorem dX8_load_46 : decode cX8_load 46 = .ok (.imul, 1) := by decide +kernel
theorem dX8_load_47 : decode cX8_load 47 = .ok (.iload_n 3, 1) := by decide +kernel
theorem dX8_load_48 : decode cX8_load 48 = .ok (.iadd, 1) := by decide +kernel
theorem dX8_load_49 : decode cX8_load 49 = .ok (.iaload, 1) := by decide +kernel
theorem dX8_load_50 : decode cX8_load 50 = .ok (.invokestatic 70, 3) := by decide +kernel
theorem dX8_load_53 : decode cX8_load 53 = .ok (.ifCond .eq 29, 3) := by decide +kernel
theorem dX8_load_56 : decode cX8_load 56 = .ok (.aload_n 0, 1) := by decide +kernel
theorem dX8_load_57 : decode cX8_load 57 = .ok (.getfield 9, 3) := by decide +kernel
theorem dX8_load_60 : decode cX8_load 60 = .ok (.bipush 36, 2) := by decide +kernel
theorem dX8_load_62 : decode cX8_load 62 = .ok (.iload_n 3, 1) := by decide +kernel
theorem dX8_load_63 : decode cX8_load 63 = .ok (.iadd, 1) := by decide +kernel
theorem dX8_load_64 : decode cX8_load 64 = .ok (.aload_n 0, 1) := by decide +kernel
theorem dX8_load_65 : decode cX8_load 65 = .ok (.getfield 37, 3) := by decide +kernel
theorem dX8_load_68 : decode cX8_load 68 = .ok (.bipush 40, 2) := by decide +kernel
theorem dX8_load_70 : decode cX8_load 70 = .ok (.iload_n 1, 1) := by decide +kernel
theorem dX8_load_71 : decode cX8_load 71 = .ok (.imul, 1) := by decide +kernel
theorem dX8_load_72 : decode cX8_load 72 = .ok (.iload_n 3, 1) := by decide +kernel
theorem dX8_load_73 : decode cX8_load 73 = .ok (.iadd, 1) := by decide +kernel
theorem dX8_load_74 : decode cX8_load 74 = .ok (.iaload, 1) := by decide +kernel
theorem dX8_load_75 : decode cX8_load 75 = .ok (.iastore, 1) := by decide +kernel
theorem dX8_load_76 : decode cX8_load 76 = .ok (.iinc 3 1, 3) := by decide +kernel
theorem dX8_load_79 : decode cX8_load 79 = .ok (.goto (-61), 3) := by decide +kernel
theorem dX8_load_82 : decode cX8_load 82 = .ok (.iload_n 3, 1) := by decide +kernel
theorem dX8_load_83 : decode cX8_load 83 = .ok (.ireturn, 1) := by decide +kernel
theorem dX8_isStep_0 : decode cX8_isStep 0 = .ok (.iload_n 1, 1) := by decide +kernel
theorem dX8_isStep_1 : decode cX8_isStep 1 = .ok (.bipush 8, 2) := by decide +kernel
theorem dX8_isStep_3 : decode cX8_isStep 3 = .ok (.irem, 1) := by decide +kernel
theorem dX8_isStep_4 : decode cX8_isStep 4 = .ok (.istore_n 3, 1) := by decide +kernel
theorem dX8_isStep_5 : decode cX8_isStep 5 = .ok (.iload_n 1, 1) := by decide +kernel
theorem dX8_isStep_6 : decode cX8_isStep 6 = .ok (.bipush 8, 2) := by decide +kernel
theorem dX8_isStep_8 : decode cX8_isStep 8 = .ok (.idiv, 1) := by decide +kernel
theorem dX8_isStep_9 : decode cX8_isStep 9 = .ok (.istore 4, 2) := by decide +kernel
theorem dX8_isStep_11 : decode cX8_isStep 11 = .ok (.iload_n 2, 1) := by decide +kernel
theorem dX8_isStep_12 : decode cX8_isStep 12 = .ok (.bipush 8, 2) := by decide +kernel
theorem dX8_isStep_14 : decode cX8_isStep 14 = .ok (.idiv, 1) := by decide +kernel
theorem dX8_isStep_15 : decode cX8_isStep 15 = .ok (.iload 4, 2) := by decide +kernel
theorem dX8_isStep_17 : decode cX8_isStep 17 = .ok (.if_icmp .ne 19, 3) := by decide +kernel
theorem dX8_isStep_20 : decode cX8_isStep 20 = .ok (.aload_n 0, 1) := by decide +kernel
theorem dX8_isStep_21 : decode cX8_isStep 21 = .ok (.iload_n 3, 1) := by decide +kernel
theorem dX8_isStep_22 : decode cX8_isStep 22 = .ok (.iload_n 2, 1) := by decide +kernel
theorem dX8_isStep_23 : decode cX8_isStep 23 = .ok (.bipush 8, 2) := by decide +kernel
theorem dX8_isStep_25 : decode cX8_isStep 25 = .ok (.irem, 1) := by decide +kernel
theorem dX8_isStep_26 : decode cX8_isStep 26 = .ok (.invokevirtual 77, 3) := by decide +kernel
theorem dX8_isStep_29 : decode cX8_isStep 29 = .ok (.ifCond .eq 7, 3) := by decide +kernel
theorem dX8_isStep_32 : decode cX8_isStep 32 = .ok (.iconst 1, 1) := by decide +kernel
theorem dX8_isStep_33 : decode cX8_isStep 33 = .ok (.goto 4, 3) := by decide +kernel
theorem dX8_isStep_36 : decode cX8_isStep 36 = .ok (.iconst 0, 1) := by decide +kernel
theorem dX8_isStep_37 : decode cX8_isStep 37 = .ok (.istore 5, 2) := by decide +kernel
theorem dX8_isStep_39 : decode cX8_isStep 39 = .ok (.iload_n 3, 1) := by decide +kernel
theorem dX8_isStep_40 : decode cX8_isStep 40 = .ok (.aload_n 0, 1) := by decide +kernel
theorem dX8_isStep_41 : decode cX8_isStep 41 = .ok (.getfield 9, 3) := by decide +kernel
theorem dX8_isStep_44 : decode cX8_isStep 44 = .ok (.bipush 8, 2) := by decide +kernel
theorem dX8_isStep_46 : decode cX8_isStep 46 = .ok (.iaload, 1) := by decide +kernel
theorem dX8_isStep_47 : decode cX8_isStep 47 = .ok (.if_icmp .ne 32, 3) := by decide +kernel
theorem dX8_isStep_50 : decode cX8_isStep 50 = .ok (.iload 4, 2) := by decide +kernel
theorem dX8_isStep_52 : decode cX8_isStep 52 = .ok (.iconst 4, 1) := by decide +kernel
theorem dX8_isStep_53 : decode cX8_isStep 53 = .ok (.if_icmp .ge 26, 3) := by decide +kernel
theorem dX8_isStep_56 : decode cX8_isStep 56 = .ok (.iload_n 2, 1) := by decide +kernel
theorem dX8_isStep_57 : decode cX8_isStep 57 = .ok (.bipush 8, 2) := by decide +kernel
theorem dX8_isStep_59 : decode cX8_isStep 59 = .ok (.iload 4, 2) := by decide +kernel
theorem dX8_isStep_61 : decode cX8_isStep 61 = .ok (.iconst 1, 1) := by decide +kernel
theorem dX8_isStep_62 : decode cX8_isStep 62 = .ok (.iadd, 1) := by decide +kernel
theorem dX8_isStep_63 : decode cX8_isStep 63 = .ok (.imul, 1) := by decide +kernel
theorem dX8_isStep_64 : decode cX8_isStep 64 = .ok (.aload_n 0, 1) := by decide +kernel
theorem dX8_isStep_65 : decode cX8_isStep 65 = .ok (.getfield 9, 3) := by decide +kernel
theorem dX8_isStep_68 : decode cX8_isStep 68 = .ok (.bipush 9, 2) := by decide +kernel
theorem dX8_isStep_70 : decode cX8_isStep 70 = .ok (.iaload, 1) := by decide +kernel
theorem dX8_isStep_71 : decode cX8_isStep 71 = .ok (.iadd, 1) := by decide +kernel
theorem dX8_isStep_72 : decode cX8_isStep 72 = .ok (.if_icmp .ne 7, 3) := by decide +kernel
theorem dX8_isStep_75 : decode cX8_isStep 75 = .ok (.iconst 1, 1) := by decide +kernel
theorem dX8_isStep_76 : decode cX8_isStep 76 = .ok (.goto 4, 3) := by decide +kernel
theorem dX8_isStep_79 : decode cX8_isStep 79 = .ok (.iconst 0, 1) := by decide +kernel
theorem dX8_isStep_80 : decode cX8_isStep 80 = .ok (.istore 6, 2) := by decide +kernel
theorem dX8_isStep_82 : decode cX8_isStep 82 = .ok (.iload_n 3, 1) := by decide +kernel
theorem dX8_isStep_83 : decode cX8_isStep 83 = .ok (.aload_n 0, 1) := by decide +kernel
theorem dX8_isStep_84 : decode cX8_isStep 84 = .ok (.getfield 9, 3) := by decide +kernel
theorem dX8_isStep_87 : decode cX8_isStep 87 = .ok (.bipush 9, 2) := by decide +kernel
theorem dX8_isStep_89 : decode cX8_isStep 89 = .ok (.iaload, 1) := by decide +kernel
theorem dX8_isStep_90 : decode cX8_isStep 90 = .ok (.if_icmp .ne 31, 3) := by decide +kernel
theorem dX8_isStep_93 : decode cX8_isStep 93 = .ok (.iload 4, 2) := by decide +kernel
theorem dX8_isStep_95 : decode cX8_isStep 95 = .ok (.ifCond .le 26, 3) := by decide +kernel
theorem dX8_isStep_98 : decode cX8_isStep 98 = .ok (.iload_n 2, 1) := by decide +kernel
theorem dX8_isStep_99 : decode cX8_isStep 99 = .ok (.bipush 8, 2) := by decide +kernel
theorem dX8_isStep_101 : decode cX8_isStep 101 = .ok (.iload 4, 2) := by decide +kernel
theorem dX8_isStep_103 : decode cX8_isStep 103 = .ok (.iconst 1, 1) := by decide +kernel
theorem dX8_isStep_104 : decode cX8_isStep 104 = .ok (.isub, 1) := by decide +kernel
theorem dX8_isStep_105 : decode cX8_isStep 105 = .ok (.imul, 1) := by decide +kernel
theorem dX8_isStep_106 : decode cX8_isStep 106 = .ok (.aload_n 0, 1) := by decide +kernel
theorem dX8_isStep_107 : decode cX8_isStep 107 = .ok (.getfield 9, 3) := by decide +kernel
theorem dX8_isStep_110 : decode cX8_isStep 110 = .ok (.bipush 8, 2) := by decide +kernel
theorem dX8_isStep_112 : decode cX8_isStep 112 = .ok (.iaload, 1) := by decide +kernel
theorem dX8_isStep_113 : decode cX8_isStep 113 = .ok (.iadd, 1) := by decide +kernel
theorem dX8_isStep_114 : decode cX8_isStep 114 = .ok (.if_icmp .ne 7, 3) := by decide +kernel
theorem dX8_isStep_117 : decode cX8_isStep 117 = .ok (.iconst 1, 1) := by decide +kernel
theorem dX8_isStep_118 : decode cX8_isStep 118 = .ok (.goto 4, 3) := by decide +kernel
theorem dX8_isStep_121 : decode cX8_isStep 121 = .ok (.iconst 0, 1) := by decide +kernel
theorem dX8_isStep_122 : decode cX8_isStep 122 = .ok (.istore 7, 2) := by decide +kernel
theorem dX8_isStep_124 : decode cX8_isStep 124 = .ok (.iload 5, 2) := by decide +kernel
theorem dX8_isStep_126 : decode cX8_isStep 126 = .ok (.ifCond .ne 13, 3) := by decide +kernel
theorem dX8_isStep_129 : decode cX8_isStep 129 = .ok (.iload 6, 2) := by decide +kernel
theorem dX8_isStep_131 : decode cX8_isStep 131 = .ok (.ifCond .ne 8, 3) := by decide +kernel
theorem dX8_isStep_134 : decode cX8_isStep 134 = .ok (.iload 7, 2) := by decide +kernel
theorem dX8_isStep_136 : decode cX8_isStep 136 = .ok (.ifCond .eq 7, 3) := by decide +kernel
theorem dX8_isStep_139 : decode cX8_isStep 139 = .ok (.iconst 1, 1) := by decide +kernel
theorem dX8_isStep_140 : decode cX8_isStep 140 = .ok (.goto 4, 3) := by decide +kernel
theorem dX8_isStep_143 : decode cX8_isStep 143 = .ok (.iconst 0, 1) := by decide +kernel
theorem dX8_isStep_144 : decode cX8_isStep 144 = .ok (.ireturn, 1) := by decide +kernel
theorem dX8_judge_0 : decode cX8_judge 0 = .ok (.aload_n 0, 1) := by decide +kernel
theorem dX8_judge_1 : decode cX8_judge 1 = .ok (.iload_n 1, 1) := by decide +kernel
theorem dX8_judge_2 : decode cX8_judge 2 = .ok (.invokevirtual 354, 3) := by decide +kernel
theorem dX8_judge_5 : decode cX8_judge 5 = .ok (.istore_n 3, 1) := by decide +kernel
theorem dX8_judge_6 : decode cX8_judge 6 = .ok (.iload_n 3, 1) := by decide +kernel
theorem dX8_judge_7 : decode cX8_judge 7 = .ok (.ifCond .lt 9, 3) := by decide +kernel
theorem dX8_judge_10 : decode cX8_judge 10 = .ok (.aload_n 0, 1) := by decide +kernel
theorem dX8_judge_11 : decode cX8_judge 11 = .ok (.iload_n 3, 1) := by decide +kernel
theorem dX8_judge_12 : decode cX8_judge 12 = .ok (.invokevirtual 74, 3) := by decide +kernel
theorem dX8_judge_15 : decode cX8_judge 15 = .ok (.ireturn, 1) := by decide +kernel
theorem dX8_judge_16 : decode cX8_judge 16 = .ok (.aload_n 0, 1) := by decide +kernel
theorem dX8_judge_17 : decode cX8_judge 17 = .ok (.iload_n 2, 1) := by decide +kernel
theorem dX8_judge_18 : decode cX8_judge 18 = .ok (.invokevirtual 106, 3) := by decide +kernel
theorem dX8_judge_21 : decode cX8_judge 21 = .ok (.ifCond .ne 9, 3) := by decide +kernel
theorem dX8_judge_24 : decode cX8_judge 24 = .ok (.aload_n 0, 1) := by decide +kernel
theorem dX8_judge_25 : decode cX8_judge 25 = .ok (.iconst 0, 1) := by decide +kernel
theorem dX8_judge_26 : decode cX8_judge 26 = .ok (.invokevirtual 74, 3) := by decide +kernel
theorem dX8_judge_29 : decode cX8_judge 29 = .ok (.ireturn, 1) := by decide +kernel
theorem dX8_judge_30 : decode cX8_judge 30 = .ok (.iconst 0, 1) := by decide +kernel
theorem dX8_judge_31 : decode cX8_judge 31 = .ok (.istore 4, 2) := by decide +kernel
theorem dX8_judge_33 : decode cX8_judge 33 = .ok (.iload 4, 2) := by decide +kernel
theorem dX8_judge_35 : decode cX8_judge 35 = .ok (.aload_n 0, 1) := by decide +kernel
theorem dX8_judge_36 : decode cX8_judge 36 = .ok (.getfield 34, 3) := by decide +kernel
theorem dX8_judge_39 : decode cX8_judge 39 = .ok (.iload_n 1, 1) := by decide +kernel
theorem dX8_judge_40 : decode cX8_judge 40 = .ok (.iaload, 1) := by decide +kernel
theorem dX8_judge_41 : decode cX8_judge 41 = .ok (.if_icmp .ge 93, 3) := by decide +kernel
theorem dX8_judge_44 : decode cX8_judge 44 = .ok (.aload_n 0, 1) := by decide +kernel
theorem dX8_judge_45 : decode cX8_judge 45 = .ok (.getfield 37, 3) := by decide +kernel
theorem dX8_judge_48 : decode cX8_judge 48 = .ok (.bipush 40, 2) := by decide +kernel
theorem dX8_judge_50 : decode cX8_judge 50 = .ok (.iload_n 1, 1) := by decide +kernel
theorem dX8_judge_51 : decode cX8_judge 51 = .ok (.imul, 1) := by decide +kernel
theorem dX8_judge_52 : decode cX8_judge 52 = .ok (.iload 4, 2) := by decide +kernel
theorem dX8_judge_54 : decode cX8_judge 54 = .ok (.iadd, 1) := by decide +kernel
theorem dX8_judge_55 : decode cX8_judge 55 = .ok (.iaload, 1) := by decide +kernel
theorem dX8_judge_56 : decode cX8_judge 56 = .ok (.istore 5, 2) := by decide +kernel
theorem dX8_judge_58 : decode cX8_judge 58 = .ok (.iload 5, 2) := by decide +kernel
theorem dX8_judge_60 : decode cX8_judge 60 = .ok (.invokestatic 99, 3) := by decide +kernel
theorem dX8_judge_63 : decode cX8_judge 63 = .ok (.ifCond .eq 52, 3) := by decide +kernel
theorem dX8_judge_66 : decode cX8_judge 66 = .ok (.iload 4, 2) := by decide +kernel
theorem dX8_judge_68 : decode cX8_judge 68 = .ok (.ifCond .ne 20, 3) := by decide +kernel
theorem dX8_judge_71 : decode cX8_judge 71 = .ok (.iload 5, 2) := by decide +kernel
theorem dX8_judge_73 : decode cX8_judge 73 = .ok (.aload_n 0, 1) := by decide +kernel
theorem dX8_judge_74 : decode cX8_judge 74 = .ok (.getfield 9, 3) := by decide +kernel
theorem dX8_judge_77 : decode cX8_judge 77 = .ok (.bipush 52, 2) := by decide +kernel
theorem dX8_judge_79 : decode cX8_judge 79 = .ok (.iload_n 2, 1) := by decide +kernel
theorem dX8_judge_80 : decode cX8_judge 80 = .ok (.iadd, 1) := by decide +kernel
theorem dX8_judge_81 : decode cX8_judge 81 = .ok (.iaload, 1) := by decide +kernel
theorem dX8_judge_82 : decode cX8_judge 82 = .ok (.if_icmp .ne 33, 3) := by decide +kernel
theorem dX8_judge_85 : decode cX8_judge 85 = .ok (.goto 26, 3) := by decide +kernel
theorem dX8_judge_88 : decode cX8_judge 88 = .ok (.aload_n 0, 1) := by decide +kernel
theorem dX8_judge_89 : decode cX8_judge 89 = .ok (.aload_n 0, 1) := by decide +kernel
theorem dX8_judge_90 : decode cX8_judge 90 = .ok (.getfield 37, 3) := by decide +kernel
theorem dX8_judge_93 : decode cX8_judge 93 = .ok (.bipush 40, 2) := by decide +kernel
theorem dX8_judge_95 : decode cX8_judge 95 = .ok (.iload_n 1, 1) := by decide +kernel
theorem dX8_judge_96 : decode cX8_judge 96 = .ok (.imul, 1) := by decide +kernel
theorem dX8_judge_97 : decode cX8_judge 97 = .ok (.iload 4, 2) := by decide +kernel
theorem dX8_judge_99 : decode cX8_judge 99 = .ok (.iadd, 1) := by decide +kernel
theorem dX8_judge_100 : decode cX8_judge 100 = .ok (.iconst 1, 1) := by decide +kernel
theorem dX8_judge_101 : decode cX8_judge 101 = .ok (.isub, 1) := by decide +kernel
theorem dX8_judge_102 : decode cX8_judge 102 = .ok (.iaload, 1) := by decide +kernel
theorem dX8_judge_103 : decode cX8_judge 103 = .ok (.iload 5, 2) := by decide +kernel
theorem dX8_judge_105 : decode cX8_judge 105 = .ok (.invokevirtual 360, 3) := by decide +kernel
theorem dX8_judge_108 : decode cX8_judge 108 = .ok (.ifCond .eq 7, 3) := by decide +kernel
theorem dX8_judge_111 : decode cX8_judge 111 = .ok (.iconst 1, 1) := by decide +kernel
theorem dX8_judge_112 : decode cX8_judge 112 = .ok (.goto 4, 3) := by decide +kernel
theorem dX8_judge_115 : decode cX8_judge 115 = .ok (.iconst 0, 1) := by decide +kernel
theorem dX8_judge_116 : decode cX8_judge 116 = .ok (.istore 6, 2) := by decide +kernel
theorem dX8_judge_118 : decode cX8_judge 118 = .ok (.iload 6, 2) := by decide +kernel
theorem dX8_judge_120 : decode cX8_judge 120 = .ok (.ifCond .ne 8, 3) := by decide +kernel
theorem dX8_judge_123 : decode cX8_judge 123 = .ok (.iconst 1, 1) := by decide +kernel
theorem dX8_judge_124 : decode cX8_judge 124 = .ok (.iload 4, 2) := by decide +kernel
theorem dX8_judge_126 : decode cX8_judge 126 = .ok (.iadd, 1) := by decide +kernel
theorem dX8_judge_127 : decode cX8_judge 127 = .ok (.ireturn, 1) := by decide +kernel
theorem dX8_judge_128 : decode cX8_judge 128 = .ok (.iinc 4 1, 3) := by decide +kernel
theorem dX8_judge_131 : decode cX8_judge 131 = .ok (.goto (-98), 3) := by decide +kernel
theorem dX8_judge_134 : decode cX8_judge 134 = .ok (.iconst 0, 1) := by decide +kernel
theorem dX8_judge_135 : decode cX8_judge 135 = .ok (.ireturn, 1) := by decide +kernel
theorem dX8_image_0 : decode cX8_image 0 = .ok (.aload_n 0, 1) := by decide +kernel
theorem dX8_image_1 : decode cX8_image 1 = .ok (.getfield 9, 3) := by decide +kernel
theorem dX8_image_4 : decode cX8_image 4 = .ok (.aload_n 0, 1) := by decide +kernel
theorem dX8_image_5 : decode cX8_image 5 = .ok (.getfield 13, 3) := by decide +kernel
theorem dX8_image_8 : decode cX8_image 8 = .ok (.invokestatic 47, 3) := by decide +kernel
theorem dX8_image_11 : decode cX8_image 11 = .ok (.aload_n 0, 1) := by decide +kernel
theorem dX8_image_12 : decode cX8_image 12 = .ok (.iconst 1, 1) := by decide +kernel
theorem dX8_image_13 : decode cX8_image 13 = .ok (.putfield 363, 3) := by decide +kernel
theorem dX8_image_16 : decode cX8_image 16 = .ok (.iconst 1, 1) := by decide +kernel
theorem dX8_image_17 : decode cX8_image 17 = .ok (.ireturn, 1) := by decide +kernel
theorem dX8_undo_0 : decode cX8_undo 0 = .ok (.aload_n 0, 1) := by decide +kernel
theorem dX8_undo_1 : decode cX8_undo 1 = .ok (.getfield 363, 3) := by decide +kernel
theorem dX8_undo_4 : decode cX8_undo 4 = .ok (.ifCond .ne 9, 3) := by decide +kernel
theorem dX8_undo_7 : decode cX8_undo 7 = .ok (.aload_n 0, 1) := by decide +kernel
theorem dX8_undo_8 : decode cX8_undo 8 = .ok (.iconst 3, 1) := by decide +kernel
theorem dX8_undo_9 : decode cX8_undo 9 = .ok (.invokevirtual 74, 3) := by decide +kernel
theorem dX8_undo_12 : decode cX8_undo 12 = .ok (.ireturn, 1) := by decide +kernel
theorem dX8_undo_13 : decode cX8_undo 13 = .ok (.aload_n 0, 1) := by decide +kernel
theorem dX8_undo_14 : decode cX8_undo 14 = .ok (.getfield 13, 3) := by decide +kernel
theorem dX8_undo_17 : decode cX8_undo 17 = .ok (.aload_n 0, 1) := by decide +kernel
theorem dX8_undo_18 : decode cX8_undo 18 = .ok (.getfield 9, 3) := by decide +kernel
theorem dX8_undo_21 : decode cX8_undo 21 = .ok (.invokestatic 47, 3) := by decide +kernel
theorem dX8_undo_24 : decode cX8_undo 24 = .ok (.aload_n 0, 1) := by decide +kernel
theorem dX8_undo_25 : decode cX8_undo 25 = .ok (.getfield 9, 3) := by decide +kernel
theorem dX8_undo_28 : decode cX8_undo 28 = .ok (.bipush 15, 2) := by decide +kernel
theorem dX8_undo_30 : decode cX8_undo 30 = .ok (.iaload, 1) := by decide +kernel
theorem dX8_undo_31 : decode cX8_undo 31 = .ok (.ireturn, 1) := by decide +kernel
theorem dX8_tear_0 : decode cX8_tear 0 = .ok (.aload_n 0, 1) := by decide +kernel
theorem dX8_tear_1 : decode cX8_tear 1 = .ok (.getfield 363, 3) := by decide +kernel
theorem dX8_tear_4 : decode cX8_tear 4 = .ok (.ifCond .eq 7, 3) := by decide +kernel
theorem dX8_tear_7 : decode cX8_tear 7 = .ok (.iconst 1, 1) := by decide +kernel
theorem dX8_tear_8 : decode cX8_tear 8 = .ok (.goto 4, 3) := by decide +kernel
theorem dX8_tear_11 : decode cX8_tear 11 = .ok (.iconst 0, 1) := by decide +kernel
theorem dX8_tear_12 : decode cX8_tear 12 = .ok (.istore_n 1, 1) := by decide +kernel
theorem dX8_tear_13 : decode cX8_tear 13 = .ok (.aload_n 0, 1) := by decide +kernel
theorem dX8_tear_14 : decode cX8_tear 14 = .ok (.iconst 0, 1) := by decide +kernel
theorem dX8_tear_15 : decode cX8_tear 15 = .ok (.putfield 363, 3) := by decide +kernel
theorem dX8_tear_18 : decode cX8_tear 18 = .ok (.iload_n 1, 1) := by decide +kernel
theorem dX8_tear_19 : decode cX8_tear 19 = .ok (.ireturn, 1) := by decide +kernel
theorem dX8_holding_0 : decode cX8_holding 0 = .ok (.iconst 0, 1) := by decide +kernel
theorem dX8_holding_1 : decode cX8_holding 1 = .ok (.istore_n 1, 1) := by decide +kernel
theorem dX8_holding_2 : decode cX8_holding 2 = .ok (.iconst 0, 1) := by decide +kernel
theorem dX8_holding_3 : decode cX8_holding 3 = .ok (.istore_n 2, 1) := by decide +kernel
theorem dX8_holding_4 : decode cX8_holding 4 = .ok (.iload_n 2, 1) := by decide +kernel
theorem dX8_holding_5 : decode cX8_holding 5 = .ok (.bipush 10, 2) := by decide +kernel
theorem dX8_holding_7 : decode cX8_holding 7 = .ok (.if_icmp .ge 29, 3) := by decide +kernel
theorem dX8_holding_10 : decode cX8_holding 10 = .ok (.iload_n 1, 1) := by decide +kernel
theorem dX8_holding_11 : decode cX8_holding 11 = .ok (.aload_n 0, 1) := by decide +kernel
theorem dX8_holding_12 : decode cX8_holding 12 = .ok (.getfield 9, 3) := by decide +kernel
theorem dX8_holding_15 : decode cX8_holding 15 = .ok (.bipush 18, 2) := by decide +kernel
theorem dX8_holding_17 : decode cX8_holding 17 = .ok (.iload_n 2, 1) := by decide +kernel
theorem dX8_holding_18 : decode cX8_holding 18 = .ok (.iadd, 1) := by decide +kernel
theorem dX8_holding_19 : decode cX8_holding 19 = .ok (.iaload, 1) := by decide +kernel
theorem dX8_holding_20 : decode cX8_holding 20 = .ok (.ifCond .ge 7, 3) := by decide +kernel
theorem dX8_holding_23 : decode cX8_holding 23 = .ok (.iconst 0, 1) := by decide +kernel
theorem dX8_holding_24 : decode cX8_holding 24 = .ok (.goto 4, 3) := by decide +kernel
theorem dX8_holding_27 : decode cX8_holding 27 = .ok (.iconst 1, 1) := by decide +kernel
theorem dX8_holding_28 : decode cX8_holding 28 = .ok (.iadd, 1) := by decide +kernel
theorem dX8_holding_29 : decode cX8_holding 29 = .ok (.istore_n 1, 1) := by decide +kernel
theorem dX8_holding_30 : decode cX8_holding 30 = .ok (.iinc 2 1, 3) := by decide +kernel
theorem dX8_holding_33 : decode cX8_holding 33 = .ok (.goto (-29), 3) := by decide +kernel
theorem dX8_holding_36 : decode cX8_holding 36 = .ok (.iload_n 1, 1) := by decide +kernel
theorem dX8_holding_37 : decode cX8_holding 37 = .ok (.ireturn, 1) := by decide +kernel
theorem dX8_count_0 : decode cX8_count 0 = .ok (.iload_n 1, 1) := by decide +kernel
theorem dX8_count_1 : decode cX8_count 1 = .ok (.tableswitch 105 0 7 #[47, 55, 63, 71, 79, 87, 92, 100], 47) := by decide +kernel
theorem dX8_count_48 : decode cX8_count 48 = .ok (.aload_n 0, 1) := by decide +kernel
theorem dX8_count_49 : decode cX8_count 49 = .ok (.getfield 9, 3) := by decide +kernel
theorem dX8_count_52 : decode cX8_count 52 = .ok (.bipush 15, 2) := by decide +kernel
theorem dX8_count_54 : decode cX8_count 54 = .ok (.iaload, 1) := by decide +kernel
theorem dX8_count_55 : decode cX8_count 55 = .ok (.ireturn, 1) := by decide +kernel
theorem dX8_count_56 : decode cX8_count 56 = .ok (.aload_n 0, 1) := by decide +kernel
theorem dX8_count_57 : decode cX8_count 57 = .ok (.getfield 9, 3) := by decide +kernel
theorem dX8_count_60 : decode cX8_count 60 = .ok (.bipush 11, 2) := by decide +kernel
theorem dX8_count_62 : decode cX8_count 62 = .ok (.iaload, 1) := by decide +kernel
theorem dX8_count_63 : decode cX8_count 63 = .ok (.ireturn, 1) := by decide +kernel
theorem dX8_count_64 : decode cX8_count 64 = .ok (.aload_n 0, 1) := by decide +kernel
theorem dX8_count_65 : decode cX8_count 65 = .ok (.getfield 9, 3) := by decide +kernel
theorem dX8_count_68 : decode cX8_count 68 = .ok (.bipush 12, 2) := by decide +kernel
theorem dX8_count_70 : decode cX8_count 70 = .ok (.iaload, 1) := by decide +kernel
theorem dX8_count_71 : decode cX8_count 71 = .ok (.ireturn, 1) := by decide +kernel
theorem dX8_count_72 : decode cX8_count 72 = .ok (.aload_n 0, 1) := by decide +kernel
theorem dX8_count_73 : decode cX8_count 73 = .ok (.getfield 9, 3) := by decide +kernel
theorem dX8_count_76 : decode cX8_count 76 = .ok (.bipush 13, 2) := by decide +kernel
theorem dX8_count_78 : decode cX8_count 78 = .ok (.iaload, 1) := by decide +kernel
theorem dX8_count_79 : decode cX8_count 79 = .ok (.ireturn, 1) := by decide +kernel
theorem dX8_count_80 : decode cX8_count 80 = .ok (.aload_n 0, 1) := by decide +kernel
theorem dX8_count_81 : decode cX8_count 81 = .ok (.getfield 9, 3) := by decide +kernel
theorem dX8_count_84 : decode cX8_count 84 = .ok (.bipush 14, 2) := by decide +kernel
theorem dX8_count_86 : decode cX8_count 86 = .ok (.iaload, 1) := by decide +kernel
theorem dX8_count_87 : decode cX8_count 87 = .ok (.ireturn, 1) := by decide +kernel
theorem dX8_count_88 : decode cX8_count 88 = .ok (.aload_n 0, 1) := by decide +kernel
theorem dX8_count_89 : decode cX8_count 89 = .ok (.getfield 243, 3) := by decide +kernel
theorem dX8_count_92 : decode cX8_count 92 = .ok (.ireturn, 1) := by decide +kernel
theorem dX8_count_93 : decode cX8_count 93 = .ok (.aload_n 0, 1) := by decide +kernel
theorem dX8_count_94 : decode cX8_count 94 = .ok (.getfield 9, 3) := by decide +kernel
theorem dX8_count_97 : decode cX8_count 97 = .ok (.bipush 16, 2) := by decide +kernel
theorem dX8_count_99 : decode cX8_count 99 = .ok (.iaload, 1) := by decide +kernel
theorem dX8_count_100 : decode cX8_count 100 = .ok (.ireturn, 1) := by decide +kernel
theorem dX8_count_101 : decode cX8_count 101 = .ok (.aload_n 0, 1) := by decide +kernel
theorem dX8_count_102 : decode cX8_count 102 = .ok (.invokevirtual 366, 3) := by decide +kernel
theorem dX8_count_105 : decode cX8_count 105 = .ok (.ireturn, 1) := by decide +kernel
theorem dX8_count_106 : decode cX8_count 106 = .ok (.aload_n 0, 1) := by decide +kernel
theorem dX8_count_107 : decode cX8_count 107 = .ok (.iconst 0, 1) := by decide +kernel
theorem dX8_count_108 : decode cX8_count 108 = .ok (.invokevirtual 74, 3) := by decide +kernel
theorem dX8_count_111 : decode cX8_count 111 = .ok (.ireturn, 1) := by decide +kernel
theorem dX8_status_0 : decode cX8_status 0 = .ok (.iload_n 1, 1) := by decide +kernel
theorem dX8_status_1 : decode cX8_status 1 = .ok (.i2l, 1) := by decide +kernel
theorem dX8_status_2 : decode cX8_status 2 = .ok (.ldc2_w 207, 3) := by decide +kernel
theorem dX8_status_5 : decode cX8_status 5 = .ok (.ldc2_w 58, 3) := by decide +kernel
theorem dX8_status_8 : decode cX8_status 8 = .ok (.invokestatic 54, 3) := by decide +kernel
theorem dX8_status_11 : decode cX8_status 11 = .ok (.ifCond .ne 9, 3) := by decide +kernel
theorem dX8_status_14 : decode cX8_status 14 = .ok (.aload_n 0, 1) := by decide +kernel
theorem dX8_status_15 : decode cX8_status 15 = .ok (.iconst 0, 1) := by decide +kernel
theorem dX8_status_16 : decode cX8_status 16 = .ok (.invokevirtual 74, 3) := by decide +kernel
theorem dX8_status_19 : decode cX8_status 19 = .ok (.ireturn, 1) := by decide +kernel
theorem dX8_status_20 : decode cX8_status 20 = .ok (.iconst 0, 1) := by decide +kernel
theorem dX8_status_21 : decode cX8_status 21 = .ok (.istore_n 2, 1) := by decide +kernel
theorem dX8_status_22 : decode cX8_status 22 = .ok (.iconst 0, 1) := by decide +kernel
theorem dX8_status_23 : decode cX8_status 23 = .ok (.istore_n 3, 1) := by decide +kernel
theorem dX8_status_24 : decode cX8_status 24 = .ok (.iload_n 3, 1) := by decide +kernel
theorem dX8_status_25 : decode cX8_status 25 = .ok (.bipush 7, 2) := by decide +kernel
theorem dX8_status_27 : decode cX8_status 27 = .ok (.if_icmp .ge 31, 3) := by decide +kernel
theorem dX8_status_30 : decode cX8_status 30 = .ok (.iload_n 2, 1) := by decide +kernel
theorem dX8_status_31 : decode cX8_status 31 = .ok (.iload_n 1, 1) := by decide +kernel
theorem dX8_status_32 : decode cX8_status 32 = .ok (.ifCond .lt 8, 3) := by decide +kernel
theorem dX8_status_35 : decode cX8_status 35 = .ok (.iload_n 1, 1) := by decide +kernel
theorem dX8_status_36 : decode cX8_status 36 = .ok (.iload_n 3, 1) := by decide +kernel
theorem dX8_status_37 : decode cX8_status 37 = .ok (.if_icmp .ne 12, 3) := by decide +kernel
theorem dX8_status_40 : decode cX8_status 40 = .ok (.aload_n 0, 1) := by decide +kernel
theorem dX8_status_41 : decode cX8_status 41 = .ok (.getfield 22, 3) := by decide +kernel
theorem dX8_status_44 : decode cX8_status 44 = .ok (.iload_n 3, 1) := by decide +kernel
theorem dX8_status_45 : decode cX8_status 45 = .ok (.iaload, 1) := by decide +kernel
theorem dX8_status_46 : decode cX8_status 46 = .ok (.goto 4, 3) := by decide +kernel
theorem dX8_status_49 : decode cX8_status 49 = .ok (.iconst 0, 1) := by decide +kernel
theorem dX8_status_50 : decode cX8_status 50 = .ok (.iadd, 1) := by decide +kernel
theorem dX8_status_51 : decode cX8_status 51 = .ok (.istore_n 2, 1) := by decide +kernel
theorem dX8_status_52 : decode cX8_status 52 = .ok (.iinc 3 1, 3) := by decide +kernel
theorem dX8_status_55 : decode cX8_status 55 = .ok (.goto (-31), 3) := by decide +kernel
theorem dX8_status_58 : decode cX8_status 58 = .ok (.iload_n 2, 1) := by decide +kernel
theorem dX8_status_59 : decode cX8_status 59 = .ok (.ireturn, 1) := by decide +kernel
theorem dJ9_min_7cf53_0 : decode cJ9_min_7cf53 0 = .ok (.iload_n 0, 1) := by decide +kernel
theorem dJ9_min_7cf53_1 : decode cJ9_min_7cf53 1 = .ok (.iload_n 1, 1) := by decide +kernel
theorem dJ9_min_7cf53_2 : decode cJ9_min_7cf53 2 = .ok (.if_icmp .gt 7, 3) := by decide +kernel
theorem dJ9_min_7cf53_5 : decode cJ9_min_7cf53 5 = .ok (.iload_n 0, 1) := by decide +kernel
theorem dJ9_min_7cf53_6 : decode cJ9_min_7cf53 6 = .ok (.goto 4, 3) := by decide +kernel
theorem dJ9_min_7cf53_9 : decode cJ9_min_7cf53 9 = .ok (.iload_n 1, 1) := by decide +kernel
theorem dJ9_min_7cf53_10 : decode cJ9_min_7cf53 10 = .ok (.ireturn, 1) := by decide +kernel
theorem dJ0_length_8abf5_0 : decode cJ0_length_8abf5 0 = .ok (.aload_n 0, 1) := by decide +kernel
theorem dJ0_length_8abf5_1 : decode cJ0_length_8abf5 1 = .ok (.getfield 9, 3) := by decide +kernel
theorem dJ0_length_8abf5_4 : decode cJ0_length_8abf5 4 = .ok (.arraylength, 1) := by decide +kernel
theorem dJ0_length_8abf5_5 : decode cJ0_length_8abf5 5 = .ok (.aload_n 0, 1) := by decide +kernel
theorem dJ0_length_8abf5_6 : decode cJ0_length_8abf5 6 = .ok (.invokevirtual 335, 3) := by decide +kernel
theorem dJ0_length_8abf5_9 : decode cJ0_length_8abf5 9 = .ok (.ishr, 1) := by decide +kernel
theorem dJ0_length_8abf5_10 : decode cJ0_length_8abf5 10 = .ok (.ireturn, 1) := by decide +kernel
theorem dJ0_charAt_5068e_0 : decode cJ0_charAt_5068e 0 = .ok (.aload_n 0, 1) := by decide +kernel
theorem dJ0_charAt_5068e_1 : decode cJ0_charAt_5068e 1 = .ok (.invokevirtual 492, 3) := by decide +kernel
theorem dJ0_charAt_5068e_4 : decode cJ0_charAt_5068e 4 = .ok (.ifCond .eq 12, 3) := by decide +kernel
theorem dJ0_charAt_5068e_7 : decode cJ0_charAt_5068e 7 = .ok (.aload_n 0, 1) := by decide +kernel
theorem dJ0_charAt_5068e_8 : decode cJ0_charAt_5068e 8 = .ok (.getfield 9, 3) := by decide +kernel
theorem dJ0_charAt_5068e_11 : decode cJ0_charAt_5068e 11 = .ok (.iload_n 1, 1) := by decide +kernel
theorem dJ0_charAt_5068e_12 : decode cJ0_charAt_5068e 12 = .ok (.invokestatic 495, 3) := by decide +kernel
theorem dJ0_charAt_5068e_15 : decode cJ0_charAt_5068e 15 = .ok (.ireturn, 1) := by decide +kernel
theorem dJ0_charAt_5068e_16 : decode cJ0_charAt_5068e 16 = .ok (.aload_n 0, 1) := by decide +kernel
theorem dJ0_charAt_5068e_17 : decode cJ0_charAt_5068e 17 = .ok (.getfield 9, 3) := by decide +kernel
theorem dJ0_charAt_5068e_20 : decode cJ0_charAt_5068e 20 = .ok (.iload_n 1, 1) := by decide +kernel
theorem dJ0_charAt_5068e_21 : decode cJ0_charAt_5068e 21 = .ok (.invokestatic 498, 3) := by decide +kernel
theorem dJ0_charAt_5068e_24 : decode cJ0_charAt_5068e 24 = .ok (.ireturn, 1) := by decide +kernel
theorem dJ0_coder_7d493_0 : decode cJ0_coder_7d493 0 = .ok (.getstatic 38, 3) := by decide +kernel
theorem dJ0_coder_7d493_3 : decode cJ0_coder_7d493 3 = .ok (.ifCond .eq 10, 3) := by decide +kernel
theorem dJ0_coder_7d493_6 : decode cJ0_coder_7d493 6 = .ok (.aload_n 0, 1) := by decide +kernel
theorem dJ0_coder_7d493_7 : decode cJ0_coder_7d493 7 = .ok (.getfield 15, 3) := by decide +kernel
theorem dJ0_coder_7d493_10 : decode cJ0_coder_7d493 10 = .ok (.goto 4, 3) := by decide +kernel
theorem dJ0_coder_7d493_13 : decode cJ0_coder_7d493 13 = .ok (.iconst 1, 1) := by decide +kernel
theorem dJ0_coder_7d493_14 : decode cJ0_coder_7d493 14 = .ok (.ireturn, 1) := by decide +kernel
theorem dJ0_isLatin1_aae02_0 : decode cJ0_isLatin1_aae02 0 = .ok (.getstatic 38, 3) := by decide +kernel
theorem dJ0_isLatin1_aae02_3 : decode cJ0_isLatin1_aae02 3 = .ok (.ifCond .eq 14, 3) := by decide +kernel
theorem dJ0_isLatin1_aae02_6 : decode cJ0_isLatin1_aae02 6 = .ok (.aload_n 0, 1) := by decide +kernel
theorem dJ0_isLatin1_aae02_7 : decode cJ0_isLatin1_aae02 7 = .ok (.getfield 15, 3) := by decide +kernel
theorem dJ0_isLatin1_aae02_10 : decode cJ0_isLatin1_aae02 10 = .ok (.ifCond .ne 7, 3) := by decide +kernel
theorem dJ0_isLatin1_aae02_13 : decode cJ0_isLatin1_aae02 13 = .ok (.iconst 1, 1) := by decide +kernel
theorem dJ0_isLatin1_aae02_14 : decode cJ0_isLatin1_aae02 14 = .ok (.goto 4, 3) := by decide +kernel
theorem dJ0_isLatin1_aae02_17 : decode cJ0_isLatin1_aae02 17 = .ok (.iconst 0, 1) := by decide +kernel
theorem dJ0_isLatin1_aae02_18 : decode cJ0_isLatin1_aae02 18 = .ok (.ireturn, 1) := by decide +kernel
theorem dJ0_checkIndex_df160_0 : decode cJ0_checkIndex_df160 0 = .ok (.iload_n 0, 1) := by decide +kernel
theorem dJ0_checkIndex_df160_1 : decode cJ0_checkIndex_df160 1 = .ok (.iload_n 1, 1) := by decide +kernel
theorem dJ0_checkIndex_df160_2 : decode cJ0_checkIndex_df160 2 = .ok (.getstatic 1053, 3) := by decide +kernel
theorem dJ0_checkIndex_df160_5 : decode cJ0_checkIndex_df160 5 = .ok (.invokestatic 1059, 3) := by decide +kernel
theorem dJ0_checkIndex_df160_8 : decode cJ0_checkIndex_df160 8 = .ok (.pop, 1) := by decide +kernel
theorem dJ0_checkIndex_df160_9 : decode cJ0_checkIndex_df160 9 = .ok (.return_, 1) := by decide +kernel
theorem dJ1_charAt_3b067_0 : decode cJ1_charAt_3b067 0 = .ok (.iload_n 1, 1) := by decide +kernel
theorem dJ1_charAt_3b067_1 : decode cJ1_charAt_3b067 1 = .ok (.aload_n 0, 1) := by decide +kernel
theorem dJ1_charAt_3b067_2 : decode cJ1_charAt_3b067 2 = .ok (.arraylength, 1) := by decide +kernel
theorem dJ1_charAt_3b067_3 : decode cJ1_charAt_3b067 3 = .ok (.invokestatic 9, 3) := by decide +kernel
theorem dJ1_charAt_3b067_6 : decode cJ1_charAt_3b067 6 = .ok (.aload_n 0, 1) := by decide +kernel
theorem dJ1_charAt_3b067_7 : decode cJ1_charAt_3b067 7 = .ok (.iload_n 1, 1) := by decide +kernel
theorem dJ1_charAt_3b067_8 : decode cJ1_charAt_3b067 8 = .ok (.baload, 1) := by decide +kernel
theorem dJ1_charAt_3b067_9 : decode cJ1_charAt_3b067 9 = .ok (.sipush 255, 3) := by decide +kernel
theorem dJ1_charAt_3b067_12 : decode cJ1_charAt_3b067 12 = .ok (.iand, 1) := by decide +kernel
theorem dJ1_charAt_3b067_13 : decode cJ1_charAt_3b067 13 = .ok (.i2c, 1) := by decide +kernel
theorem dJ1_charAt_3b067_14 : decode cJ1_charAt_3b067 14 = .ok (.ireturn, 1) := by decide +kernel
theorem dJ2_getChar_3b067_0 : decode cJ2_getChar_3b067 0 = .ok (.getstatic 44, 3) := by decide +kernel
theorem dJ2_getChar_3b067_3 : decode cJ2_getChar_3b067 3 = .ok (.ifCond .ne 25, 3) := by decide +kernel
theorem dJ2_getChar_3b067_6 : decode cJ2_getChar_3b067 6 = .ok (.iload_n 1, 1) := by decide +kernel
theorem dJ2_getChar_3b067_7 : decode cJ2_getChar_3b067 7 = .ok (.ifCond .lt 11, 3) := by decide +kernel
theorem dJ2_getChar_3b067_10 : decode cJ2_getChar_3b067 10 = .ok (.iload_n 1, 1) := by decide +kernel
theorem dJ2_getChar_3b067_11 : decode cJ2_getChar_3b067 11 = .ok (.aload_n 0, 1) := by decide +kernel
theorem dJ2_getChar_3b067_12 : decode cJ2_getChar_3b067 12 = .ok (.invokestatic 48, 3) := by decide +kernel
theorem dJ2_getChar_3b067_15 : decode cJ2_getChar_3b067 15 = .ok (.if_icmp .lt 13, 3) := by decide +kernel
theorem dJ2_getChar_3b067_18 : decode cJ2_getChar_3b067 18 = .ok (.new 52, 3) := by decide +kernel
theorem dJ2_getChar_3b067_21 : decode cJ2_getChar_3b067 21 = .ok (.dup, 1) := by decide +kernel
theorem dJ2_getChar_3b067_22 : decode cJ2_getChar_3b067 22 = .ok (.ldc 54, 2) := by decide +kernel
theorem dJ2_getChar_3b067_24 : decode cJ2_getChar_3b067 24 = .ok (.invokespecial 56, 3) := by decide +kernel
theorem dJ2_getChar_3b067_27 : decode cJ2_getChar_3b067 27 = .ok (.athrow, 1) := by decide +kernel
theorem dJ2_getChar_3b067_28 : decode cJ2_getChar_3b067 28 = .ok (.iload_n 1, 1) := by decide +kernel
theorem dJ2_getChar_3b067_29 : decode cJ2_getChar_3b067 29 = .ok (.iconst 1, 1) := by decide +kernel
theorem dJ2_getChar_3b067_30 : decode cJ2_getChar_3b067 30 = .ok (.ishl, 1) := by decide +kernel
theorem dJ2_getChar_3b067_31 : decode cJ2_getChar_3b067 31 = .ok (.istore_n 1, 1) := by decide +kernel
theorem dJ2_getChar_3b067_32 : decode cJ2_getChar_3b067 32 = .ok (.aload_n 0, 1) := by decide +kernel
theorem dJ2_getChar_3b067_33 : decode cJ2_getChar_3b067 33 = .ok (.iload_n 1, 1) := by decide +kernel
theorem dJ2_getChar_3b067_34 : decode cJ2_getChar_3b067 34 = .ok (.iinc 1 1, 3) := by decide +kernel
theorem dJ2_getChar_3b067_37 : decode cJ2_getChar_3b067 37 = .ok (.baload, 1) := by decide +kernel
theorem dJ2_getChar_3b067_38 : decode cJ2_getChar_3b067 38 = .ok (.sipush 255, 3) := by decide +kernel
theorem dJ2_getChar_3b067_41 : decode cJ2_getChar_3b067 41 = .ok (.iand, 1) := by decide +kernel
theorem dJ2_getChar_3b067_42 : decode cJ2_getChar_3b067 42 = .ok (.getstatic 59, 3) := by decide +kernel
theorem dJ2_getChar_3b067_45 : decode cJ2_getChar_3b067 45 = .ok (.ishl, 1) := by decide +kernel
theorem dJ2_getChar_3b067_46 : decode cJ2_getChar_3b067 46 = .ok (.aload_n 0, 1) := by decide +kernel
theorem dJ2_getChar_3b067_47 : decode cJ2_getChar_3b067 47 = .ok (.iload_n 1, 1) := by decide +kernel
theorem dJ2_getChar_3b067_48 : decode cJ2_getChar_3b067 48 = .ok (.baload, 1) := by decide +kernel
theorem dJ2_getChar_3b067_49 : decode cJ2_getChar_3b067 49 = .ok (.sipush 255, 3) := by decide +kernel
theorem dJ2_getChar_3b067_52 : decode cJ2_getChar_3b067 52 = .ok (.iand, 1) := by decide +kernel
theorem dJ2_getChar_3b067_53 : decode cJ2_getChar_3b067 53 = .ok (.getstatic 63, 3) := by decide +kernel
theorem dJ2_getChar_3b067_56 : decode cJ2_getChar_3b067 56 = .ok (.ishl, 1) := by decide +kernel
theorem dJ2_getChar_3b067_57 : decode cJ2_getChar_3b067 57 = .ok (.ior, 1) := by decide +kernel
theorem dJ2_getChar_3b067_58 : decode cJ2_getChar_3b067 58 = .ok (.i2c, 1) := by decide +kernel
theorem dJ2_getChar_3b067_59 : decode cJ2_getChar_3b067 59 = .ok (.ireturn, 1) := by decide +kernel
theorem dJ2_length_9d52b_0 : decode cJ2_length_9d52b 0 = .ok (.aload_n 0, 1) := by decide +kernel
theorem dJ2_length_9d52b_1 : decode cJ2_length_9d52b 1 = .ok (.arraylength, 1) := by decide +kernel
theorem dJ2_length_9d52b_2 : decode cJ2_length_9d52b 2 = .ok (.iconst 1, 1) := by decide +kernel
theorem dJ2_length_9d52b_3 : decode cJ2_length_9d52b 3 = .ok (.ishr, 1) := by decide +kernel
theorem dJ2_length_9d52b_4 : decode cJ2_length_9d52b 4 = .ok (.ireturn, 1) := by decide +kernel
theorem dJ2_charAt_3b067_0 : decode cJ2_charAt_3b067 0 = .ok (.iload_n 1, 1) := by decide +kernel
theorem dJ2_charAt_3b067_1 : decode cJ2_charAt_3b067 1 = .ok (.aload_n 0, 1) := by decide +kernel
theorem dJ2_charAt_3b067_2 : decode cJ2_charAt_3b067 2 = .ok (.invokestatic 67, 3) := by decide +kernel
theorem dJ2_charAt_3b067_5 : decode cJ2_charAt_3b067 5 = .ok (.aload_n 0, 1) := by decide +kernel
theorem dJ2_charAt_3b067_6 : decode cJ2_charAt_3b067 6 = .ok (.iload_n 1, 1) := by decide +kernel
theorem dJ2_charAt_3b067_7 : decode cJ2_charAt_3b067 7 = .ok (.invokestatic 71, 3) := by decide +kernel
theorem dJ2_charAt_3b067_10 : decode cJ2_charAt_3b067 10 = .ok (.ireturn, 1) := by decide +kernel
