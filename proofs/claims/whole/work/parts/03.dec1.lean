theorem dX3_leastNext_37 : decode cX3_leastNext 37 = .ok (.aload_n 0, 1) := by decide +kernel
theorem dX3_leastNext_38 : decode cX3_leastNext 38 = .ok (.getfield 27, 3) := by decide +kernel
theorem dX3_leastNext_41 : decode cX3_leastNext 41 = .ok (.iload 4, 2) := by decide +kernel
theorem dX3_leastNext_43 : decode cX3_leastNext 43 = .ok (.iaload, 1) := by decide +kernel
theorem dX3_leastNext_44 : decode cX3_leastNext 44 = .ok (.ifCond .le 30, 3) := by decide +kernel
theorem dX3_leastNext_47 : decode cX3_leastNext 47 = .ok (.aload_n 0, 1) := by decide +kernel
theorem dX3_leastNext_48 : decode cX3_leastNext 48 = .ok (.getfield 24, 3) := by decide +kernel
theorem dX3_leastNext_51 : decode cX3_leastNext 51 = .ok (.iload 4, 2) := by decide +kernel
theorem dX3_leastNext_53 : decode cX3_leastNext 53 = .ok (.iaload, 1) := by decide +kernel
theorem dX3_leastNext_54 : decode cX3_leastNext 54 = .ok (.aload_n 0, 1) := by decide +kernel
theorem dX3_leastNext_55 : decode cX3_leastNext 55 = .ok (.getfield 60, 3) := by decide +kernel
theorem dX3_leastNext_58 : decode cX3_leastNext 58 = .ok (.iload_n 3, 1) := by decide +kernel
theorem dX3_leastNext_59 : decode cX3_leastNext 59 = .ok (.invokevirtual 129, 3) := by decide +kernel
theorem dX3_leastNext_62 : decode cX3_leastNext 62 = .ok (.iadd, 1) := by decide +kernel
theorem dX3_leastNext_63 : decode cX3_leastNext 63 = .ok (.aload_n 0, 1) := by decide +kernel
theorem dX3_leastNext_64 : decode cX3_leastNext 64 = .ok (.getfield 24, 3) := by decide +kernel
theorem dX3_leastNext_67 : decode cX3_leastNext 67 = .ok (.iload_n 1, 1) := by decide +kernel
theorem dX3_leastNext_68 : decode cX3_leastNext 68 = .ok (.iaload, 1) := by decide +kernel
theorem dX3_leastNext_69 : decode cX3_leastNext 69 = .ok (.if_icmp .ne 5, 3) := by decide +kernel
theorem dX3_leastNext_72 : decode cX3_leastNext 72 = .ok (.iload_n 2, 1) := by decide +kernel
theorem dX3_leastNext_73 : decode cX3_leastNext 73 = .ok (.ireturn, 1) := by decide +kernel
theorem dX3_leastNext_74 : decode cX3_leastNext 74 = .ok (.iinc 2 1, 3) := by decide +kernel
theorem dX3_leastNext_77 : decode cX3_leastNext 77 = .ok (.goto (-75), 3) := by decide +kernel
theorem dX3_leastNext_80 : decode cX3_leastNext 80 = .ok (.iconst 0, 1) := by decide +kernel
theorem dX3_leastNext_81 : decode cX3_leastNext 81 = .ok (.ireturn, 1) := by decide +kernel
theorem dX3_alwaysAhead_0 : decode cX3_alwaysAhead 0 = .ok (.aload_n 0, 1) := by decide +kernel
theorem dX3_alwaysAhead_1 : decode cX3_alwaysAhead 1 = .ok (.invokevirtual 84, 3) := by decide +kernel
theorem dX3_alwaysAhead_4 : decode cX3_alwaysAhead 4 = .ok (.istore_n 3, 1) := by decide +kernel
theorem dX3_alwaysAhead_5 : decode cX3_alwaysAhead 5 = .ok (.iconst 0, 1) := by decide +kernel
theorem dX3_alwaysAhead_6 : decode cX3_alwaysAhead 6 = .ok (.istore 4, 2) := by decide +kernel
theorem dX3_alwaysAhead_8 : decode cX3_alwaysAhead 8 = .ok (.iload 4, 2) := by decide +kernel
theorem dX3_alwaysAhead_10 : decode cX3_alwaysAhead 10 = .ok (.iload_n 3, 1) := by decide +kernel
theorem dX3_alwaysAhead_11 : decode cX3_alwaysAhead 11 = .ok (.if_icmp .gt 65, 3) := by decide +kernel
theorem dX3_alwaysAhead_14 : decode cX3_alwaysAhead 14 = .ok (.iload 4, 2) := by decide +kernel
theorem dX3_alwaysAhead_16 : decode cX3_alwaysAhead 16 = .ok (.iload_n 2, 1) := by decide +kernel
theorem dX3_alwaysAhead_17 : decode cX3_alwaysAhead 17 = .ok (.ishr, 1) := by decide +kernel
theorem dX3_alwaysAhead_18 : decode cX3_alwaysAhead 18 = .ok (.iconst 1, 1) := by decide +kernel
theorem dX3_alwaysAhead_19 : decode cX3_alwaysAhead 19 = .ok (.iand, 1) := by decide +kernel
theorem dX3_alwaysAhead_20 : decode cX3_alwaysAhead 20 = .ok (.ifCond .eq 16, 3) := by decide +kernel
theorem dX3_alwaysAhead_23 : decode cX3_alwaysAhead 23 = .ok (.iload 4, 2) := by decide +kernel
theorem dX3_alwaysAhead_25 : decode cX3_alwaysAhead 25 = .ok (.iload_n 1, 1) := by decide +kernel
theorem dX3_alwaysAhead_26 : decode cX3_alwaysAhead 26 = .ok (.ishr, 1) := by decide +kernel
theorem dX3_alwaysAhead_27 : decode cX3_alwaysAhead 27 = .ok (.iconst 1, 1) := by decide +kernel
theorem dX3_alwaysAhead_28 : decode cX3_alwaysAhead 28 = .ok (.iand, 1) := by decide +kernel
theorem dX3_alwaysAhead_29 : decode cX3_alwaysAhead 29 = .ok (.ifCond .ne 7, 3) := by decide +kernel
theorem dX3_alwaysAhead_32 : decode cX3_alwaysAhead 32 = .ok (.iconst 1, 1) := by decide +kernel
theorem dX3_alwaysAhead_33 : decode cX3_alwaysAhead 33 = .ok (.goto 4, 3) := by decide +kernel
theorem dX3_alwaysAhead_36 : decode cX3_alwaysAhead 36 = .ok (.iconst 0, 1) := by decide +kernel
theorem dX3_alwaysAhead_37 : decode cX3_alwaysAhead 37 = .ok (.istore 5, 2) := by decide +kernel
theorem dX3_alwaysAhead_39 : decode cX3_alwaysAhead 39 = .ok (.iload 5, 2) := by decide +kernel
theorem dX3_alwaysAhead_41 : decode cX3_alwaysAhead 41 = .ok (.ifCond .eq 29, 3) := by decide +kernel
theorem dX3_alwaysAhead_44 : decode cX3_alwaysAhead 44 = .ok (.aload_n 0, 1) := by decide +kernel
theorem dX3_alwaysAhead_45 : decode cX3_alwaysAhead 45 = .ok (.getfield 21, 3) := by decide +kernel
theorem dX3_alwaysAhead_48 : decode cX3_alwaysAhead 48 = .ok (.iload 4, 2) := by decide +kernel
theorem dX3_alwaysAhead_50 : decode cX3_alwaysAhead 50 = .ok (.iaload, 1) := by decide +kernel
theorem dX3_alwaysAhead_51 : decode cX3_alwaysAhead 51 = .ok (.aload_n 0, 1) := by decide +kernel
theorem dX3_alwaysAhead_52 : decode cX3_alwaysAhead 52 = .ok (.getfield 24, 3) := by decide +kernel
theorem dX3_alwaysAhead_55 : decode cX3_alwaysAhead 55 = .ok (.iload 4, 2) := by decide +kernel
theorem dX3_alwaysAhead_57 : decode cX3_alwaysAhead 57 = .ok (.iaload, 1) := by decide +kernel
theorem dX3_alwaysAhead_58 : decode cX3_alwaysAhead 58 = .ok (.iadd, 1) := by decide +kernel
theorem dX3_alwaysAhead_59 : decode cX3_alwaysAhead 59 = .ok (.aload_n 0, 1) := by decide +kernel
theorem dX3_alwaysAhead_60 : decode cX3_alwaysAhead 60 = .ok (.getfield 24, 3) := by decide +kernel
theorem dX3_alwaysAhead_63 : decode cX3_alwaysAhead 63 = .ok (.iconst 0, 1) := by decide +kernel
theorem dX3_alwaysAhead_64 : decode cX3_alwaysAhead 64 = .ok (.iaload, 1) := by decide +kernel
theorem dX3_alwaysAhead_65 : decode cX3_alwaysAhead 65 = .ok (.if_icmp .ne 5, 3) := by decide +kernel
theorem dX3_alwaysAhead_68 : decode cX3_alwaysAhead 68 = .ok (.iconst 0, 1) := by decide +kernel
theorem dX3_alwaysAhead_69 : decode cX3_alwaysAhead 69 = .ok (.ireturn, 1) := by decide +kernel
theorem dX3_alwaysAhead_70 : decode cX3_alwaysAhead 70 = .ok (.iinc 4 1, 3) := by decide +kernel
theorem dX3_alwaysAhead_73 : decode cX3_alwaysAhead 73 = .ok (.goto (-65), 3) := by decide +kernel
theorem dX3_alwaysAhead_76 : decode cX3_alwaysAhead 76 = .ok (.iconst 1, 1) := by decide +kernel
theorem dX3_alwaysAhead_77 : decode cX3_alwaysAhead 77 = .ok (.ireturn, 1) := by decide +kernel
theorem dX3_placesInBest_0 : decode cX3_placesInBest 0 = .ok (.aload_n 0, 1) := by decide +kernel
theorem dX3_placesInBest_1 : decode cX3_placesInBest 1 = .ok (.invokevirtual 84, 3) := by decide +kernel
theorem dX3_placesInBest_4 : decode cX3_placesInBest 4 = .ok (.istore_n 2, 1) := by decide +kernel
theorem dX3_placesInBest_5 : decode cX3_placesInBest 5 = .ok (.iconst 0, 1) := by decide +kernel
theorem dX3_placesInBest_6 : decode cX3_placesInBest 6 = .ok (.istore_n 3, 1) := by decide +kernel
theorem dX3_placesInBest_7 : decode cX3_placesInBest 7 = .ok (.iconst 0, 1) := by decide +kernel
theorem dX3_placesInBest_8 : decode cX3_placesInBest 8 = .ok (.istore 4, 2) := by decide +kernel
theorem dX3_placesInBest_10 : decode cX3_placesInBest 10 = .ok (.iload 4, 2) := by decide +kernel
theorem dX3_placesInBest_12 : decode cX3_placesInBest 12 = .ok (.iload_n 2, 1) := by decide +kernel
theorem dX3_placesInBest_13 : decode cX3_placesInBest 13 = .ok (.if_icmp .gt 80, 3) := by decide +kernel
theorem dX3_placesInBest_16 : decode cX3_placesInBest 16 = .ok (.aload_n 0, 1) := by decide +kernel
theorem dX3_placesInBest_17 : decode cX3_placesInBest 17 = .ok (.getfield 18, 3) := by decide +kernel
theorem dX3_placesInBest_20 : decode cX3_placesInBest 20 = .ok (.iload 4, 2) := by decide +kernel
theorem dX3_placesInBest_22 : decode cX3_placesInBest 22 = .ok (.bipush 8, 2) := by decide +kernel
theorem dX3_placesInBest_24 : decode cX3_placesInBest 24 = .ok (.imul, 1) := by decide +kernel
theorem dX3_placesInBest_25 : decode cX3_placesInBest 25 = .ok (.iload_n 1, 1) := by decide +kernel
theorem dX3_placesInBest_26 : decode cX3_placesInBest 26 = .ok (.iadd, 1) := by decide +kernel
theorem dX3_placesInBest_27 : decode cX3_placesInBest 27 = .ok (.iaload, 1) := by decide +kernel
theorem dX3_placesInBest_28 : decode cX3_placesInBest 28 = .ok (.istore 5, 2) := by decide +kernel
theorem dX3_placesInBest_30 : decode cX3_placesInBest 30 = .ok (.iload 5, 2) := by decide +kernel
theorem dX3_placesInBest_32 : decode cX3_placesInBest 32 = .ok (.iconst (-1), 1) := by decide +kernel
theorem dX3_placesInBest_33 : decode cX3_placesInBest 33 = .ok (.if_icmp .ne 6, 3) := by decide +kernel
theorem dX3_placesInBest_36 : decode cX3_placesInBest 36 = .ok (.goto 51, 3) := by decide +kernel
theorem dX3_placesInBest_39 : decode cX3_placesInBest 39 = .ok (.aload_n 0, 1) := by decide +kernel
theorem dX3_placesInBest_40 : decode cX3_placesInBest 40 = .ok (.getfield 21, 3) := by decide +kernel
theorem dX3_placesInBest_43 : decode cX3_placesInBest 43 = .ok (.iload 4, 2) := by decide +kernel
theorem dX3_placesInBest_45 : decode cX3_placesInBest 45 = .ok (.iaload, 1) := by decide +kernel
theorem dX3_placesInBest_46 : decode cX3_placesInBest 46 = .ok (.aload_n 0, 1) := by decide +kernel
theorem dX3_placesInBest_47 : decode cX3_placesInBest 47 = .ok (.getfield 60, 3) := by decide +kernel
theorem dX3_placesInBest_50 : decode cX3_placesInBest 50 = .ok (.iload 5, 2) := by decide +kernel
theorem dX3_placesInBest_52 : decode cX3_placesInBest 52 = .ok (.invokevirtual 129, 3) := by decide +kernel
theorem dX3_placesInBest_55 : decode cX3_placesInBest 55 = .ok (.iadd, 1) := by decide +kernel
theorem dX3_placesInBest_56 : decode cX3_placesInBest 56 = .ok (.aload_n 0, 1) := by decide +kernel
theorem dX3_placesInBest_57 : decode cX3_placesInBest 57 = .ok (.getfield 24, 3) := by decide +kernel
theorem dX3_placesInBest_60 : decode cX3_placesInBest 60 = .ok (.iload 4, 2) := by decide +kernel
theorem dX3_placesInBest_62 : decode cX3_placesInBest 62 = .ok (.iconst 1, 1) := by decide +kernel
theorem dX3_placesInBest_63 : decode cX3_placesInBest 63 = .ok (.iload_n 1, 1) := by decide +kernel
theorem dX3_placesInBest_64 : decode cX3_placesInBest 64 = .ok (.ishl, 1) := by decide +kernel
theorem dX3_placesInBest_65 : decode cX3_placesInBest 65 = .ok (.ior, 1) := by decide +kernel
theorem dX3_placesInBest_66 : decode cX3_placesInBest 66 = .ok (.iaload, 1) := by decide +kernel
theorem dX3_placesInBest_67 : decode cX3_placesInBest 67 = .ok (.iadd, 1) := by decide +kernel
theorem dX3_placesInBest_68 : decode cX3_placesInBest 68 = .ok (.aload_n 0, 1) := by decide +kernel
theorem dX3_placesInBest_69 : decode cX3_placesInBest 69 = .ok (.getfield 24, 3) := by decide +kernel
theorem dX3_placesInBest_72 : decode cX3_placesInBest 72 = .ok (.iconst 0, 1) := by decide +kernel
theorem dX3_placesInBest_73 : decode cX3_placesInBest 73 = .ok (.iaload, 1) := by decide +kernel
theorem dX3_placesInBest_74 : decode cX3_placesInBest 74 = .ok (.if_icmp .ne 13, 3) := by decide +kernel
theorem dX3_placesInBest_77 : decode cX3_placesInBest 77 = .ok (.iload_n 3, 1) := by decide +kernel
theorem dX3_placesInBest_78 : decode cX3_placesInBest 78 = .ok (.iconst 1, 1) := by decide +kernel
theorem dX3_placesInBest_79 : decode cX3_placesInBest 79 = .ok (.iload 4, 2) := by decide +kernel
theorem dX3_placesInBest_81 : decode cX3_placesInBest 81 = .ok (.invokestatic 142, 3) := by decide +kernel
theorem dX3_placesInBest_84 : decode cX3_placesInBest 84 = .ok (.ishl, 1) := by decide +kernel
theorem dX3_placesInBest_85 : decode cX3_placesInBest 85 = .ok (.ior, 1) := by decide +kernel
theorem dX3_placesInBest_86 : decode cX3_placesInBest 86 = .ok (.istore_n 3, 1) := by decide +kernel
theorem dX3_placesInBest_87 : decode cX3_placesInBest 87 = .ok (.iinc 4 1, 3) := by decide +kernel
theorem dX3_placesInBest_90 : decode cX3_placesInBest 90 = .ok (.goto (-80), 3) := by decide +kernel
theorem dX3_placesInBest_93 : decode cX3_placesInBest 93 = .ok (.iload_n 3, 1) := by decide +kernel
theorem dX3_placesInBest_94 : decode cX3_placesInBest 94 = .ok (.ireturn, 1) := by decide +kernel
theorem dX3_settleSpread_0 : decode cX3_settleSpread 0 = .ok (.aload_n 0, 1) := by decide +kernel
theorem dX3_settleSpread_1 : decode cX3_settleSpread 1 = .ok (.getfield 50, 3) := by decide +kernel
theorem dX3_settleSpread_4 : decode cX3_settleSpread 4 = .ok (.ifCond .ne 4, 3) := by decide +kernel
theorem dX3_settleSpread_7 : decode cX3_settleSpread 7 = .ok (.return_, 1) := by decide +kernel
theorem dX3_settleSpread_8 : decode cX3_settleSpread 8 = .ok (.iconst 0, 1) := by decide +kernel
theorem dX3_settleSpread_9 : decode cX3_settleSpread 9 = .ok (.istore_n 1, 1) := by decide +kernel
theorem dX3_settleSpread_10 : decode cX3_settleSpread 10 = .ok (.iload_n 1, 1) := by decide +kernel
theorem dX3_settleSpread_11 : decode cX3_settleSpread 11 = .ok (.sipush 180, 3) := by decide +kernel
theorem dX3_settleSpread_14 : decode cX3_settleSpread 14 = .ok (.if_icmp .gt 16, 3) := by decide +kernel
theorem dX3_settleSpread_17 : decode cX3_settleSpread 17 = .ok (.aload_n 0, 1) := by decide +kernel
theorem dX3_settleSpread_18 : decode cX3_settleSpread 18 = .ok (.getfield 33, 3) := by decide +kernel
theorem dX3_settleSpread_21 : decode cX3_settleSpread 21 = .ok (.iload_n 1, 1) := by decide +kernel
theorem dX3_settleSpread_22 : decode cX3_settleSpread 22 = .ok (.iconst 0, 1) := by decide +kernel
theorem dX3_settleSpread_23 : decode cX3_settleSpread 23 = .ok (.iastore, 1) := by decide +kernel
theorem dX3_settleSpread_24 : decode cX3_settleSpread 24 = .ok (.iinc 1 1, 3) := by decide +kernel
theorem dX3_settleSpread_27 : decode cX3_settleSpread 27 = .ok (.goto (-17), 3) := by decide +kernel
theorem dX3_settleSpread_30 : decode cX3_settleSpread 30 = .ok (.aload_n 0, 1) := by decide +kernel
theorem dX3_settleSpread_31 : decode cX3_settleSpread 31 = .ok (.invokevirtual 84, 3) := by decide +kernel
theorem dX3_settleSpread_34 : decode cX3_settleSpread 34 = .ok (.istore_n 1, 1) := by decide +kernel
theorem dX3_settleSpread_35 : decode cX3_settleSpread 35 = .ok (.iconst 0, 1) := by decide +kernel
theorem dX3_settleSpread_36 : decode cX3_settleSpread 36 = .ok (.istore_n 2, 1) := by decide +kernel
theorem dX3_settleSpread_37 : decode cX3_settleSpread 37 = .ok (.iload_n 2, 1) := by decide +kernel
theorem dX3_settleSpread_38 : decode cX3_settleSpread 38 = .ok (.iload_n 1, 1) := by decide +kernel
theorem dX3_settleSpread_39 : decode cX3_settleSpread 39 = .ok (.if_icmp .gt 59, 3) := by decide +kernel
theorem dX3_settleSpread_42 : decode cX3_settleSpread 42 = .ok (.iload_n 2, 1) := by decide +kernel
theorem dX3_settleSpread_43 : decode cX3_settleSpread 43 = .ok (.invokestatic 142, 3) := by decide +kernel
theorem dX3_settleSpread_46 : decode cX3_settleSpread 46 = .ok (.aload_n 0, 1) := by decide +kernel
theorem dX3_settleSpread_47 : decode cX3_settleSpread 47 = .ok (.getfield 60, 3) := by decide +kernel
theorem dX3_settleSpread_50 : decode cX3_settleSpread 50 = .ok (.getfield 79, 3) := by decide +kernel
theorem dX3_settleSpread_53 : decode cX3_settleSpread 53 = .ok (.iconst 2, 1) := by decide +kernel
theorem dX3_settleSpread_54 : decode cX3_settleSpread 54 = .ok (.idiv, 1) := by decide +kernel
theorem dX3_settleSpread_55 : decode cX3_settleSpread 55 = .ok (.if_icmp .ne 37, 3) := by decide +kernel
theorem dX3_settleSpread_58 : decode cX3_settleSpread 58 = .ok (.aload_n 0, 1) := by decide +kernel
theorem dX3_settleSpread_59 : decode cX3_settleSpread 59 = .ok (.iconst 0, 1) := by decide +kernel
theorem dX3_settleSpread_60 : decode cX3_settleSpread 60 = .ok (.iload_n 2, 1) := by decide +kernel
theorem dX3_settleSpread_61 : decode cX3_settleSpread 61 = .ok (.iconst 0, 1) := by decide +kernel
theorem dX3_settleSpread_62 : decode cX3_settleSpread 62 = .ok (.aload_n 0, 1) := by decide +kernel
theorem dX3_settleSpread_63 : decode cX3_settleSpread 63 = .ok (.getfield 36, 3) := by decide +kernel
theorem dX3_settleSpread_66 : decode cX3_settleSpread 66 = .ok (.iconst 0, 1) := by decide +kernel
theorem dX3_settleSpread_67 : decode cX3_settleSpread 67 = .ok (.invokestatic 145, 3) := by decide +kernel
theorem dX3_settleSpread_70 : decode cX3_settleSpread 70 = .ok (.istore_n 3, 1) := by decide +kernel
theorem dX3_settleSpread_71 : decode cX3_settleSpread 71 = .ok (.aload_n 0, 1) := by decide +kernel
theorem dX3_settleSpread_72 : decode cX3_settleSpread 72 = .ok (.iload_n 2, 1) := by decide +kernel
theorem dX3_settleSpread_73 : decode cX3_settleSpread 73 = .ok (.iload_n 1, 1) := by decide +kernel
theorem dX3_settleSpread_74 : decode cX3_settleSpread 74 = .ok (.iconst 0, 1) := by decide +kernel
theorem dX3_settleSpread_75 : decode cX3_settleSpread 75 = .ok (.aload_n 0, 1) := by decide +kernel
theorem dX3_settleSpread_76 : decode cX3_settleSpread 76 = .ok (.getfield 39, 3) := by decide +kernel
theorem dX3_settleSpread_79 : decode cX3_settleSpread 79 = .ok (.iconst 0, 1) := by decide +kernel
theorem dX3_settleSpread_80 : decode cX3_settleSpread 80 = .ok (.invokestatic 145, 3) := by decide +kernel
theorem dX3_settleSpread_83 : decode cX3_settleSpread 83 = .ok (.istore 4, 2) := by decide +kernel
theorem dX3_settleSpread_85 : decode cX3_settleSpread 85 = .ok (.aload_n 0, 1) := by decide +kernel
theorem dX3_settleSpread_86 : decode cX3_settleSpread 86 = .ok (.iload_n 3, 1) := by decide +kernel
theorem dX3_settleSpread_87 : decode cX3_settleSpread 87 = .ok (.iload 4, 2) := by decide +kernel
theorem dX3_settleSpread_89 : decode cX3_settleSpread 89 = .ok (.invokevirtual 149, 3) := by decide +kernel
theorem dX3_settleSpread_92 : decode cX3_settleSpread 92 = .ok (.iinc 2 1, 3) := by decide +kernel
theorem dX3_settleSpread_95 : decode cX3_settleSpread 95 = .ok (.goto (-58), 3) := by decide +kernel
theorem dX3_settleSpread_98 : decode cX3_settleSpread 98 = .ok (.aload_n 0, 1) := by decide +kernel
theorem dX3_settleSpread_99 : decode cX3_settleSpread 99 = .ok (.iconst 0, 1) := by decide +kernel
theorem dX3_settleSpread_100 : decode cX3_settleSpread 100 = .ok (.putfield 50, 3) := by decide +kernel
theorem dX3_settleSpread_103 : decode cX3_settleSpread 103 = .ok (.return_, 1) := by decide +kernel
theorem dX3_gather_0 : decode cX3_gather 0 = .ok (.iload_n 1, 1) := by decide +kernel
theorem dX3_gather_1 : decode cX3_gather 1 = .ok (.iload_n 2, 1) := by decide +kernel
theorem dX3_gather_2 : decode cX3_gather 2 = .ok (.if_icmp .ne 28, 3) := by decide +kernel
theorem dX3_gather_5 : decode cX3_gather 5 = .ok (.iload 5, 2) := by decide +kernel
theorem dX3_gather_7 : decode cX3_gather 7 = .ok (.aload 4, 2) := by decide +kernel
theorem dX3_gather_9 : decode cX3_gather 9 = .ok (.arraylength, 1) := by decide +kernel
theorem dX3_gather_10 : decode cX3_gather 10 = .ok (.if_icmp .ge 9, 3) := by decide +kernel
theorem dX3_gather_13 : decode cX3_gather 13 = .ok (.aload 4, 2) := by decide +kernel
theorem dX3_gather_15 : decode cX3_gather 15 = .ok (.iload 5, 2) := by decide +kernel
theorem dX3_gather_17 : decode cX3_gather 17 = .ok (.iload_n 3, 1) := by decide +kernel
theorem dX3_gather_18 : decode cX3_gather 18 = .ok (.iastore, 1) := by decide +kernel
theorem dX3_gather_19 : decode cX3_gather 19 = .ok (.iload 5, 2) := by decide +kernel
theorem dX3_gather_21 : decode cX3_gather 21 = .ok (.iconst 1, 1) := by decide +kernel
theorem dX3_gather_22 : decode cX3_gather 22 = .ok (.iadd, 1) := by decide +kernel
theorem dX3_gather_23 : decode cX3_gather 23 = .ok (.aload 4, 2) := by decide +kernel
theorem dX3_gather_25 : decode cX3_gather 25 = .ok (.arraylength, 1) := by decide +kernel
theorem dX3_gather_26 : decode cX3_gather 26 = .ok (.invokestatic 132, 3) := by decide +kernel
theorem dX3_gather_29 : decode cX3_gather 29 = .ok (.ireturn, 1) := by decide +kernel
theorem dX3_gather_30 : decode cX3_gather 30 = .ok (.iload 5, 2) := by decide +kernel
theorem dX3_gather_32 : decode cX3_gather 32 = .ok (.istore 6, 2) := by decide +kernel
theorem dX3_gather_34 : decode cX3_gather 34 = .ok (.iconst 0, 1) := by decide +kernel
theorem dX3_gather_35 : decode cX3_gather 35 = .ok (.istore 7, 2) := by decide +kernel
theorem dX3_gather_37 : decode cX3_gather 37 = .ok (.iload 7, 2) := by decide +kernel
theorem dX3_gather_39 : decode cX3_gather 39 = .ok (.aload_n 0, 1) := by decide +kernel
theorem dX3_gather_40 : decode cX3_gather 40 = .ok (.getfield 60, 3) := by decide +kernel
theorem dX3_gather_43 : decode cX3_gather 43 = .ok (.getfield 79, 3) := by decide +kernel
theorem dX3_gather_46 : decode cX3_gather 46 = .ok (.if_icmp .ge 66, 3) := by decide +kernel
theorem dX3_gather_49 : decode cX3_gather 49 = .ok (.aload_n 0, 1) := by decide +kernel
theorem dX3_gather_50 : decode cX3_gather 50 = .ok (.getfield 18, 3) := by decide +kernel
theorem dX3_gather_53 : decode cX3_gather 53 = .ok (.iload_n 1, 1) := by decide +kernel
theorem dX3_gather_54 : decode cX3_gather 54 = .ok (.bipush 8, 2) := by decide +kernel
theorem dX3_gather_56 : decode cX3_gather 56 = .ok (.imul, 1) := by decide +kernel
theorem dX3_gather_57 : decode cX3_gather 57 = .ok (.iload 7, 2) := by decide +kernel
theorem dX3_gather_59 : decode cX3_gather 59 = .ok (.iadd, 1) := by decide +kernel
theorem dX3_gather_60 : decode cX3_gather 60 = .ok (.iaload, 1) := by decide +kernel
theorem dX3_gather_61 : decode cX3_gather 61 = .ok (.istore 8, 2) := by decide +kernel
theorem dX3_gather_63 : decode cX3_gather 63 = .ok (.iload_n 2, 1) := by decide +kernel
theorem dX3_gather_64 : decode cX3_gather 64 = .ok (.iload 7, 2) := by decide +kernel
theorem dX3_gather_66 : decode cX3_gather 66 = .ok (.ishr, 1) := by decide +kernel
theorem dX3_gather_67 : decode cX3_gather 67 = .ok (.iconst 1, 1) := by decide +kernel
theorem dX3_gather_68 : decode cX3_gather 68 = .ok (.iand, 1) := by decide +kernel
theorem dX3_gather_69 : decode cX3_gather 69 = .ok (.ifCond .eq 37, 3) := by decide +kernel
theorem dX3_gather_72 : decode cX3_gather 72 = .ok (.iload 8, 2) := by decide +kernel
theorem dX3_gather_74 : decode cX3_gather 74 = .ok (.iconst (-1), 1) := by decide +kernel
theorem dX3_gather_75 : decode cX3_gather 75 = .ok (.if_icmp .eq 31, 3) := by decide +kernel
theorem dX3_gather_78 : decode cX3_gather 78 = .ok (.aload_n 0, 1) := by decide +kernel
theorem dX3_gather_79 : decode cX3_gather 79 = .ok (.iload_n 1, 1) := by decide +kernel
theorem dX3_gather_80 : decode cX3_gather 80 = .ok (.iconst 1, 1) := by decide +kernel
theorem dX3_gather_81 : decode cX3_gather 81 = .ok (.iload 7, 2) := by decide +kernel
theorem dX3_gather_83 : decode cX3_gather 83 = .ok (.ishl, 1) := by decide +kernel
theorem dX3_gather_84 : decode cX3_gather 84 = .ok (.ior, 1) := by decide +kernel
theorem dX3_gather_85 : decode cX3_gather 85 = .ok (.iload_n 2, 1) := by decide +kernel
theorem dX3_gather_86 : decode cX3_gather 86 = .ok (.iload_n 3, 1) := by decide +kernel
theorem dX3_gather_87 : decode cX3_gather 87 = .ok (.aload_n 0, 1) := by decide +kernel
theorem dX3_gather_88 : decode cX3_gather 88 = .ok (.getfield 60, 3) := by decide +kernel
theorem dX3_gather_91 : decode cX3_gather 91 = .ok (.iload 8, 2) := by decide +kernel
theorem dX3_gather_93 : decode cX3_gather 93 = .ok (.invokevirtual 129, 3) := by decide +kernel
theorem dX3_gather_96 : decode cX3_gather 96 = .ok (.iadd, 1) := by decide +kernel
theorem dX3_gather_97 : decode cX3_gather 97 = .ok (.aload 4, 2) := by decide +kernel
theorem dX3_gather_99 : decode cX3_gather 99 = .ok (.iload 6, 2) := by decide +kernel
theorem dX3_gather_101 : decode cX3_gather 101 = .ok (.invokestatic 145, 3) := by decide +kernel
theorem dX3_gather_104 : decode cX3_gather 104 = .ok (.istore 6, 2) := by decide +kernel
theorem dX3_gather_106 : decode cX3_gather 106 = .ok (.iinc 7 1, 3) := by decide +kernel
theorem dX3_gather_109 : decode cX3_gather 109 = .ok (.goto (-72), 3) := by decide +kernel
theorem dX3_gather_112 : decode cX3_gather 112 = .ok (.iload 6, 2) := by decide +kernel
theorem dX3_gather_114 : decode cX3_gather 114 = .ok (.ireturn, 1) := by decide +kernel
theorem dX3_joinHalves_0 : decode cX3_joinHalves 0 = .ok (.iconst 0, 1) := by decide +kernel
theorem dX3_joinHalves_1 : decode cX3_joinHalves 1 = .ok (.istore_n 3, 1) := by decide +kernel
theorem dX3_joinHalves_2 : decode cX3_joinHalves 2 = .ok (.iload_n 3, 1) := by decide +kernel
theorem dX3_joinHalves_3 : decode cX3_joinHalves 3 = .ok (.iload_n 1, 1) := by decide +kernel
theorem dX3_joinHalves_4 : decode cX3_joinHalves 4 = .ok (.if_icmp .ge 59, 3) := by decide +kernel
theorem dX3_joinHalves_7 : decode cX3_joinHalves 7 = .ok (.iconst 0, 1) := by decide +kernel
theorem dX3_joinHalves_8 : decode cX3_joinHalves 8 = .ok (.istore 4, 2) := by decide +kernel
theorem dX3_joinHalves_10 : decode cX3_joinHalves 10 = .ok (.iload 4, 2) := by decide +kernel
theorem dX3_joinHalves_12 : decode cX3_joinHalves 12 = .ok (.iload_n 2, 1) := by decide +kernel
theorem dX3_joinHalves_13 : decode cX3_joinHalves 13 = .ok (.if_icmp .ge 44, 3) := by decide +kernel
theorem dX3_joinHalves_16 : decode cX3_joinHalves 16 = .ok (.aload_n 0, 1) := by decide +kernel
theorem dX3_joinHalves_17 : decode cX3_joinHalves 17 = .ok (.getfield 36, 3) := by decide +kernel
theorem dX3_joinHalves_20 : decode cX3_joinHalves 20 = .ok (.iload_n 3, 1) := by decide +kernel
theorem dX3_joinHalves_21 : decode cX3_joinHalves 21 = .ok (.iaload, 1) := by decide +kernel
theorem dX3_joinHalves_22 : decode cX3_joinHalves 22 = .ok (.aload_n 0, 1) := by decide +kernel
theorem dX3_joinHalves_23 : decode cX3_joinHalves 23 = .ok (.getfield 39, 3) := by decide +kernel
theorem dX3_joinHalves_26 : decode cX3_joinHalves 26 = .ok (.iload 4, 2) := by decide +kernel
theorem dX3_joinHalves_28 : decode cX3_joinHalves 28 = .ok (.iaload, 1) := by decide +kernel
theorem dX3_joinHalves_29 : decode cX3_joinHalves 29 = .ok (.iadd, 1) := by decide +kernel
theorem dX3_joinHalves_30 : decode cX3_joinHalves 30 = .ok (.istore 5, 2) := by decide +kernel
theorem dX3_joinHalves_32 : decode cX3_joinHalves 32 = .ok (.iload 5, 2) := by decide +kernel
theorem dX3_joinHalves_34 : decode cX3_joinHalves 34 = .ok (.sipush 180, 3) := by decide +kernel
theorem dX3_joinHalves_37 : decode cX3_joinHalves 37 = .ok (.if_icmp .gt 14, 3) := by decide +kernel
theorem dX3_joinHalves_40 : decode cX3_joinHalves 40 = .ok (.aload_n 0, 1) := by decide +kernel
theorem dX3_joinHalves_41 : decode cX3_joinHalves 41 = .ok (.getfield 33, 3) := by decide +kernel
theorem dX3_joinHalves_44 : decode cX3_joinHalves 44 = .ok (.iload 5, 2) := by decide +kernel
theorem dX3_joinHalves_46 : decode cX3_joinHalves 46 = .ok (.dup2, 1) := by decide +kernel
theorem dX3_joinHalves_47 : decode cX3_joinHalves 47 = .ok (.iaload, 1) := by decide +kernel
theorem dX3_joinHalves_48 : decode cX3_joinHalves 48 = .ok (.iconst 1, 1) := by decide +kernel
theorem dX3_joinHalves_49 : decode cX3_joinHalves 49 = .ok (.iadd, 1) := by decide +kernel
theorem dX3_joinHalves_50 : decode cX3_joinHalves 50 = .ok (.iastore, 1) := by decide +kernel
theorem dX3_joinHalves_51 : decode cX3_joinHalves 51 = .ok (.iinc 4 1, 3) := by decide +kernel
theorem dX3_joinHalves_54 : decode cX3_joinHalves 54 = .ok (.goto (-44), 3) := by decide +kernel
theorem dX3_joinHalves_57 : decode cX3_joinHalves 57 = .ok (.iinc 3 1, 3) := by decide +kernel
theorem dX3_joinHalves_60 : decode cX3_joinHalves 60 = .ok (.goto (-58), 3) := by decide +kernel
theorem dX3_joinHalves_63 : decode cX3_joinHalves 63 = .ok (.return_, 1) := by decide +kernel
theorem dX3_withGaps_0 : decode cX3_withGaps 0 = .ok (.iload_n 1, 1) := by decide +kernel
theorem dX3_withGaps_1 : decode cX3_withGaps 1 = .ok (.sipush 180, 3) := by decide +kernel
theorem dX3_withGaps_4 : decode cX3_withGaps 4 = .ok (.if_icmp .gt 12, 3) := by decide +kernel
theorem dX3_withGaps_7 : decode cX3_withGaps 7 = .ok (.aload_n 0, 1) := by decide +kernel
theorem dX3_withGaps_8 : decode cX3_withGaps 8 = .ok (.getfield 33, 3) := by decide +kernel
theorem dX3_withGaps_11 : decode cX3_withGaps 11 = .ok (.iload_n 1, 1) := by decide +kernel
theorem dX3_withGaps_12 : decode cX3_withGaps 12 = .ok (.iaload, 1) := by decide +kernel
theorem dX3_withGaps_13 : decode cX3_withGaps 13 = .ok (.goto 4, 3) := by decide +kernel
theorem dX3_withGaps_16 : decode cX3_withGaps 16 = .ok (.iconst 0, 1) := by decide +kernel
theorem dX3_withGaps_17 : decode cX3_withGaps 17 = .ok (.ireturn, 1) := by decide +kernel
theorem dX3_withGapsUpTo_0 : decode cX3_withGapsUpTo 0 = .ok (.iconst 0, 1) := by decide +kernel
theorem dX3_withGapsUpTo_1 : decode cX3_withGapsUpTo 1 = .ok (.istore_n 2, 1) := by decide +kernel
theorem dX3_withGapsUpTo_2 : decode cX3_withGapsUpTo 2 = .ok (.iconst 0, 1) := by decide +kernel
theorem dX3_withGapsUpTo_3 : decode cX3_withGapsUpTo 3 = .ok (.istore_n 3, 1) := by decide +kernel
theorem dX3_withGapsUpTo_4 : decode cX3_withGapsUpTo 4 = .ok (.iload_n 3, 1) := by decide +kernel
theorem dX3_withGapsUpTo_5 : decode cX3_withGapsUpTo 5 = .ok (.iload_n 1, 1) := by decide +kernel
theorem dX3_withGapsUpTo_6 : decode cX3_withGapsUpTo 6 = .ok (.if_icmp .gt 25, 3) := by decide +kernel
theorem dX3_withGapsUpTo_9 : decode cX3_withGapsUpTo 9 = .ok (.iload_n 3, 1) := by decide +kernel
theorem dX3_withGapsUpTo_10 : decode cX3_withGapsUpTo 10 = .ok (.sipush 180, 3) := by decide +kernel
theorem dX3_withGapsUpTo_13 : decode cX3_withGapsUpTo 13 = .ok (.if_icmp .gt 18, 3) := by decide +kernel
theorem dX3_withGapsUpTo_16 : decode cX3_withGapsUpTo 16 = .ok (.iload_n 2, 1) := by decide +kernel
theorem dX3_withGapsUpTo_17 : decode cX3_withGapsUpTo 17 = .ok (.aload_n 0, 1) := by decide +kernel
theorem dX3_withGapsUpTo_18 : decode cX3_withGapsUpTo 18 = .ok (.getfield 33, 3) := by decide +kernel
theorem dX3_withGapsUpTo_21 : decode cX3_withGapsUpTo 21 = .ok (.iload_n 3, 1) := by decide +kernel
theorem dX3_withGapsUpTo_22 : decode cX3_withGapsUpTo 22 = .ok (.iaload, 1) := by decide +kernel
theorem dX3_withGapsUpTo_23 : decode cX3_withGapsUpTo 23 = .ok (.iadd, 1) := by decide +kernel
theorem dX3_withGapsUpTo_24 : decode cX3_withGapsUpTo 24 = .ok (.istore_n 2, 1) := by decide +kernel
theorem dX3_withGapsUpTo_25 : decode cX3_withGapsUpTo 25 = .ok (.iinc 3 1, 3) := by decide +kernel
theorem dX3_withGapsUpTo_28 : decode cX3_withGapsUpTo 28 = .ok (.goto (-24), 3) := by decide +kernel
theorem dX3_withGapsUpTo_31 : decode cX3_withGapsUpTo 31 = .ok (.iload_n 2, 1) := by decide +kernel
theorem dX3_withGapsUpTo_32 : decode cX3_withGapsUpTo 32 = .ok (.ireturn, 1) := by decide +kernel
theorem dX3_gapsOfAll_0 : decode cX3_gapsOfAll 0 = .ok (.iconst 0, 1) := by decide +kernel
theorem dX3_gapsOfAll_1 : decode cX3_gapsOfAll 1 = .ok (.istore_n 1, 1) := by decide +kernel
theorem dX3_gapsOfAll_2 : decode cX3_gapsOfAll 2 = .ok (.iconst 0, 1) := by decide +kernel
theorem dX3_gapsOfAll_3 : decode cX3_gapsOfAll 3 = .ok (.istore_n 2, 1) := by decide +kernel
theorem dX3_gapsOfAll_4 : decode cX3_gapsOfAll 4 = .ok (.iload_n 2, 1) := by decide +kernel
theorem dX3_gapsOfAll_5 : decode cX3_gapsOfAll 5 = .ok (.sipush 180, 3) := by decide +kernel
theorem dX3_gapsOfAll_8 : decode cX3_gapsOfAll 8 = .ok (.if_icmp .gt 20, 3) := by decide +kernel
theorem dX3_gapsOfAll_11 : decode cX3_gapsOfAll 11 = .ok (.iload_n 1, 1) := by decide +kernel
theorem dX3_gapsOfAll_12 : decode cX3_gapsOfAll 12 = .ok (.iload_n 2, 1) := by decide +kernel
theorem dX3_gapsOfAll_13 : decode cX3_gapsOfAll 13 = .ok (.aload_n 0, 1) := by decide +kernel
theorem dX3_gapsOfAll_14 : decode cX3_gapsOfAll 14 = .ok (.getfield 33, 3) := by decide +kernel
theorem dX3_gapsOfAll_17 : decode cX3_gapsOfAll 17 = .ok (.iload_n 2, 1) := by decide +kernel
theorem dX3_gapsOfAll_18 : decode cX3_gapsOfAll 18 = .ok (.iaload, 1) := by decide +kernel
theorem dX3_gapsOfAll_19 : decode cX3_gapsOfAll 19 = .ok (.imul, 1) := by decide +kernel
theorem dX3_gapsOfAll_20 : decode cX3_gapsOfAll 20 = .ok (.iadd, 1) := by decide +kernel
theorem dX3_gapsOfAll_21 : decode cX3_gapsOfAll 21 = .ok (.istore_n 1, 1) := by decide +kernel
theorem dX3_gapsOfAll_22 : decode cX3_gapsOfAll 22 = .ok (.iinc 2 1, 3) := by decide +kernel
theorem dX3_gapsOfAll_25 : decode cX3_gapsOfAll 25 = .ok (.goto (-21), 3) := by decide +kernel
theorem dX3_gapsOfAll_28 : decode cX3_gapsOfAll 28 = .ok (.iload_n 1, 1) := by decide +kernel
theorem dX3_gapsOfAll_29 : decode cX3_gapsOfAll 29 = .ok (.ireturn, 1) := by decide +kernel
theorem dX3_fewestLeftOut_0 : decode cX3_fewestLeftOut 0 = .ok (.aload_n 0, 1) := by decide +kernel
theorem dX3_fewestLeftOut_1 : decode cX3_fewestLeftOut 1 = .ok (.getfield 53, 3) := by decide +kernel
theorem dX3_fewestLeftOut_4 : decode cX3_fewestLeftOut 4 = .ok (.ifCond .eq 16, 3) := by decide +kernel
theorem dX3_fewestLeftOut_7 : decode cX3_fewestLeftOut 7 = .ok (.aload_n 0, 1) := by decide +kernel
theorem dX3_fewestLeftOut_8 : decode cX3_fewestLeftOut 8 = .ok (.aload_n 0, 1) := by decide +kernel
theorem dX3_fewestLeftOut_9 : decode cX3_fewestLeftOut 9 = .ok (.invokevirtual 152, 3) := by decide +kernel
theorem dX3_fewestLeftOut_12 : decode cX3_fewestLeftOut 12 = .ok (.putfield 56, 3) := by decide +kernel
theorem dX3_fewestLeftOut_15 : decode cX3_fewestLeftOut 15 = .ok (.aload_n 0, 1) := by decide +kernel
theorem dX3_fewestLeftOut_16 : decode cX3_fewestLeftOut 16 = .ok (.iconst 0, 1) := by decide +kernel
theorem dX3_fewestLeftOut_17 : decode cX3_fewestLeftOut 17 = .ok (.putfield 53, 3) := by decide +kernel
theorem dX3_fewestLeftOut_20 : decode cX3_fewestLeftOut 20 = .ok (.aload_n 0, 1) := by decide +kernel
theorem dX3_fewestLeftOut_21 : decode cX3_fewestLeftOut 21 = .ok (.getfield 56, 3) := by decide +kernel
theorem dX3_fewestLeftOut_24 : decode cX3_fewestLeftOut 24 = .ok (.ireturn, 1) := by decide +kernel
theorem dX3_searchLeftOut_0 : decode cX3_searchLeftOut 0 = .ok (.aload_n 0, 1) := by decide +kernel
theorem dX3_searchLeftOut_1 : decode cX3_searchLeftOut 1 = .ok (.invokevirtual 155, 3) := by decide +kernel
theorem dX3_searchLeftOut_4 : decode cX3_searchLeftOut 4 = .ok (.istore_n 1, 1) := by decide +kernel
theorem dX3_searchLeftOut_5 : decode cX3_searchLeftOut 5 = .ok (.iload_n 1, 1) := by decide +kernel
theorem dX3_searchLeftOut_6 : decode cX3_searchLeftOut 6 = .ok (.invokestatic 142, 3) := by decide +kernel
theorem dX3_searchLeftOut_9 : decode cX3_searchLeftOut 9 = .ok (.istore_n 2, 1) := by decide +kernel
theorem dX3_searchLeftOut_10 : decode cX3_searchLeftOut 10 = .ok (.iconst 0, 1) := by decide +kernel
theorem dX3_searchLeftOut_11 : decode cX3_searchLeftOut 11 = .ok (.istore_n 3, 1) := by decide +kernel
theorem dX3_searchLeftOut_12 : decode cX3_searchLeftOut 12 = .ok (.iload_n 3, 1) := by decide +kernel
theorem dX3_searchLeftOut_13 : decode cX3_searchLeftOut 13 = .ok (.iload_n 2, 1) := by decide +kernel
theorem dX3_searchLeftOut_14 : decode cX3_searchLeftOut 14 = .ok (.if_icmp .ge 68, 3) := by decide +kernel
theorem dX3_searchLeftOut_17 : decode cX3_searchLeftOut 17 = .ok (.iconst 0, 1) := by decide +kernel
theorem dX3_searchLeftOut_18 : decode cX3_searchLeftOut 18 = .ok (.istore 4, 2) := by decide +kernel
theorem dX3_searchLeftOut_20 : decode cX3_searchLeftOut 20 = .ok (.iload 4, 2) := by decide +kernel
theorem dX3_searchLeftOut_22 : decode cX3_searchLeftOut 22 = .ok (.sipush 1023, 3) := by decide +kernel
theorem dX3_searchLeftOut_25 : decode cX3_searchLeftOut 25 = .ok (.if_icmp .gt 51, 3) := by decide +kernel
theorem dX3_searchLeftOut_28 : decode cX3_searchLeftOut 28 = .ok (.iload 4, 2) := by decide +kernel
theorem dX3_searchLeftOut_30 : decode cX3_searchLeftOut 30 = .ok (.invokestatic 142, 3) := by decide +kernel
theorem dX3_searchLeftOut_33 : decode cX3_searchLeftOut 33 = .ok (.iload_n 3, 1) := by decide +kernel
theorem dX3_searchLeftOut_34 : decode cX3_searchLeftOut 34 = .ok (.if_icmp .ne 16, 3) := by decide +kernel
theorem dX3_searchLeftOut_37 : decode cX3_searchLeftOut 37 = .ok (.iload 4, 2) := by decide +kernel
theorem dX3_searchLeftOut_39 : decode cX3_searchLeftOut 39 = .ok (.iload_n 1, 1) := by decide +kernel
theorem dX3_searchLeftOut_40 : decode cX3_searchLeftOut 40 = .ok (.iconst (-1), 1) := by decide +kernel
theorem dX3_searchLeftOut_41 : decode cX3_searchLeftOut 41 = .ok (.ixor, 1) := by decide +kernel
theorem dX3_searchLeftOut_42 : decode cX3_searchLeftOut 42 = .ok (.iand, 1) := by decide +kernel
theorem dX3_searchLeftOut_43 : decode cX3_searchLeftOut 43 = .ok (.ifCond .ne 7, 3) := by decide +kernel
theorem dX3_searchLeftOut_46 : decode cX3_searchLeftOut 46 = .ok (.iconst 1, 1) := by decide +kernel
theorem dX3_searchLeftOut_47 : decode cX3_searchLeftOut 47 = .ok (.goto 4, 3) := by decide +kernel
theorem dX3_searchLeftOut_50 : decode cX3_searchLeftOut 50 = .ok (.iconst 0, 1) := by decide +kernel
theorem dX3_searchLeftOut_51 : decode cX3_searchLeftOut 51 = .ok (.istore 5, 2) := by decide +kernel
theorem dX3_searchLeftOut_53 : decode cX3_searchLeftOut 53 = .ok (.iload 5, 2) := by decide +kernel
theorem dX3_searchLeftOut_55 : decode cX3_searchLeftOut 55 = .ok (.ifCond .eq 15, 3) := by decide +kernel
theorem dX3_searchLeftOut_58 : decode cX3_searchLeftOut 58 = .ok (.aload_n 0, 1) := by decide +kernel
theorem dX3_searchLeftOut_59 : decode cX3_searchLeftOut 59 = .ok (.iload 4, 2) := by decide +kernel
theorem dX3_searchLeftOut_61 : decode cX3_searchLeftOut 61 = .ok (.invokevirtual 158, 3) := by decide +kernel
theorem dX3_searchLeftOut_64 : decode cX3_searchLeftOut 64 = .ok (.ifCond .eq 6, 3) := by decide +kernel
theorem dX3_searchLeftOut_67 : decode cX3_searchLeftOut 67 = .ok (.iload 4, 2) := by decide +kernel
theorem dX3_searchLeftOut_69 : decode cX3_searchLeftOut 69 = .ok (.ireturn, 1) := by decide +kernel
theorem dX3_searchLeftOut_70 : decode cX3_searchLeftOut 70 = .ok (.iinc 4 1, 3) := by decide +kernel
theorem dX3_searchLeftOut_73 : decode cX3_searchLeftOut 73 = .ok (.goto (-53), 3) := by decide +kernel
theorem dX3_searchLeftOut_76 : decode cX3_searchLeftOut 76 = .ok (.iinc 3 1, 3) := by decide +kernel
theorem dX3_searchLeftOut_79 : decode cX3_searchLeftOut 79 = .ok (.goto (-67), 3) := by decide +kernel
theorem dX3_searchLeftOut_82 : decode cX3_searchLeftOut 82 = .ok (.iload_n 1, 1) := by decide +kernel
theorem dX3_searchLeftOut_83 : decode cX3_searchLeftOut 83 = .ok (.ireturn, 1) := by decide +kernel
theorem dX3_kindsWithGaps_0 : decode cX3_kindsWithGaps 0 = .ok (.aload_n 0, 1) := by decide +kernel
theorem dX3_kindsWithGaps_1 : decode cX3_kindsWithGaps 1 = .ok (.invokevirtual 84, 3) := by decide +kernel
theorem dX3_kindsWithGaps_4 : decode cX3_kindsWithGaps 4 = .ok (.istore_n 1, 1) := by decide +kernel
theorem dX3_kindsWithGaps_5 : decode cX3_kindsWithGaps 5 = .ok (.iconst 0, 1) := by decide +kernel
theorem dX3_kindsWithGaps_6 : decode cX3_kindsWithGaps 6 = .ok (.istore_n 2, 1) := by decide +kernel
theorem dX3_kindsWithGaps_7 : decode cX3_kindsWithGaps 7 = .ok (.iconst 0, 1) := by decide +kernel
theorem dX3_kindsWithGaps_8 : decode cX3_kindsWithGaps 8 = .ok (.istore_n 3, 1) := by decide +kernel
theorem dX3_kindsWithGaps_9 : decode cX3_kindsWithGaps 9 = .ok (.iload_n 3, 1) := by decide +kernel
theorem dX3_kindsWithGaps_10 : decode cX3_kindsWithGaps 10 = .ok (.iload_n 1, 1) := by decide +kernel
theorem dX3_kindsWithGaps_11 : decode cX3_kindsWithGaps 11 = .ok (.if_icmp .gt 59, 3) := by decide +kernel
theorem dX3_kindsWithGaps_14 : decode cX3_kindsWithGaps 14 = .ok (.iconst 0, 1) := by decide +kernel
theorem dX3_kindsWithGaps_15 : decode cX3_kindsWithGaps 15 = .ok (.istore 4, 2) := by decide +kernel
theorem dX3_kindsWithGaps_17 : decode cX3_kindsWithGaps 17 = .ok (.iload 4, 2) := by decide +kernel
theorem dX3_kindsWithGaps_19 : decode cX3_kindsWithGaps 19 = .ok (.aload_n 0, 1) := by decide +kernel
theorem dX3_kindsWithGaps_20 : decode cX3_kindsWithGaps 20 = .ok (.getfield 60, 3) := by decide +kernel
theorem dX3_kindsWithGaps_23 : decode cX3_kindsWithGaps 23 = .ok (.getfield 79, 3) := by decide +kernel
theorem dX3_kindsWithGaps_26 : decode cX3_kindsWithGaps 26 = .ok (.if_icmp .ge 38, 3) := by decide +kernel
theorem dX3_kindsWithGaps_29 : decode cX3_kindsWithGaps 29 = .ok (.aload_n 0, 1) := by decide +kernel
theorem dX3_kindsWithGaps_30 : decode cX3_kindsWithGaps 30 = .ok (.getfield 18, 3) := by decide +kernel
theorem dX3_kindsWithGaps_33 : decode cX3_kindsWithGaps 33 = .ok (.iload_n 3, 1) := by decide +kernel
theorem dX3_kindsWithGaps_34 : decode cX3_kindsWithGaps 34 = .ok (.bipush 8, 2) := by decide +kernel
theorem dX3_kindsWithGaps_36 : decode cX3_kindsWithGaps 36 = .ok (.imul, 1) := by decide +kernel
theorem dX3_kindsWithGaps_37 : decode cX3_kindsWithGaps 37 = .ok (.iload 4, 2) := by decide +kernel
theorem dX3_kindsWithGaps_39 : decode cX3_kindsWithGaps 39 = .ok (.iadd, 1) := by decide +kernel
theorem dX3_kindsWithGaps_40 : decode cX3_kindsWithGaps 40 = .ok (.iaload, 1) := by decide +kernel
theorem dX3_kindsWithGaps_41 : decode cX3_kindsWithGaps 41 = .ok (.istore 5, 2) := by decide +kernel
theorem dX3_kindsWithGaps_43 : decode cX3_kindsWithGaps 43 = .ok (.iload_n 2, 1) := by decide +kernel
theorem dX3_kindsWithGaps_44 : decode cX3_kindsWithGaps 44 = .ok (.iload 5, 2) := by decide +kernel
theorem dX3_kindsWithGaps_46 : decode cX3_kindsWithGaps 46 = .ok (.iconst (-1), 1) := by decide +kernel
theorem dX3_kindsWithGaps_47 : decode cX3_kindsWithGaps 47 = .ok (.if_icmp .ne 7, 3) := by decide +kernel
theorem dX3_kindsWithGaps_50 : decode cX3_kindsWithGaps 50 = .ok (.iconst 0, 1) := by decide +kernel
theorem dX3_kindsWithGaps_51 : decode cX3_kindsWithGaps 51 = .ok (.goto 5, 3) := by decide +kernel
theorem dX3_kindsWithGaps_54 : decode cX3_kindsWithGaps 54 = .ok (.iload 5, 2) := by decide +kernel
theorem dX3_kindsWithGaps_56 : decode cX3_kindsWithGaps 56 = .ok (.ior, 1) := by decide +kernel
theorem dX3_kindsWithGaps_57 : decode cX3_kindsWithGaps 57 = .ok (.istore_n 2, 1) := by decide +kernel
theorem dX3_kindsWithGaps_58 : decode cX3_kindsWithGaps 58 = .ok (.iinc 4 1, 3) := by decide +kernel
theorem dX3_kindsWithGaps_61 : decode cX3_kindsWithGaps 61 = .ok (.goto (-44), 3) := by decide +kernel
theorem dX3_kindsWithGaps_64 : decode cX3_kindsWithGaps 64 = .ok (.iinc 3 1, 3) := by decide +kernel
theorem dX3_kindsWithGaps_67 : decode cX3_kindsWithGaps 67 = .ok (.goto (-58), 3) := by decide +kernel
theorem dX3_kindsWithGaps_70 : decode cX3_kindsWithGaps 70 = .ok (.iload_n 2, 1) := by decide +kernel
theorem dX3_kindsWithGaps_71 : decode cX3_kindsWithGaps 71 = .ok (.ireturn, 1) := by decide +kernel
theorem dX3_reachesAllWithout_0 : decode cX3_reachesAllWithout 0 = .ok (.aload_n 0, 1) := by decide +kernel
theorem dX3_reachesAllWithout_1 : decode cX3_reachesAllWithout 1 = .ok (.invokevirtual 84, 3) := by decide +kernel
theorem dX3_reachesAllWithout_4 : decode cX3_reachesAllWithout 4 = .ok (.istore_n 2, 1) := by decide +kernel
theorem dX3_reachesAllWithout_5 : decode cX3_reachesAllWithout 5 = .ok (.iconst 1, 1) := by decide +kernel
theorem dX3_reachesAllWithout_6 : decode cX3_reachesAllWithout 6 = .ok (.istore_n 3, 1) := by decide +kernel
theorem dX3_reachesAllWithout_7 : decode cX3_reachesAllWithout 7 = .ok (.iload_n 3, 1) := by decide +kernel
theorem dX3_reachesAllWithout_8 : decode cX3_reachesAllWithout 8 = .ok (.iload_n 2, 1) := by decide +kernel
theorem dX3_reachesAllWithout_9 : decode cX3_reachesAllWithout 9 = .ok (.if_icmp .gt 16, 3) := by decide +kernel
theorem dX3_reachesAllWithout_12 : decode cX3_reachesAllWithout 12 = .ok (.aload_n 0, 1) := by decide +kernel
theorem dX3_reachesAllWithout_13 : decode cX3_reachesAllWithout 13 = .ok (.getfield 42, 3) := by decide +kernel
theorem dX3_reachesAllWithout_16 : decode cX3_reachesAllWithout 16 = .ok (.iload_n 3, 1) := by decide +kernel
theorem dX3_reachesAllWithout_17 : decode cX3_reachesAllWithout 17 = .ok (.iconst 0, 1) := by decide +kernel
theorem dX3_reachesAllWithout_18 : decode cX3_reachesAllWithout 18 = .ok (.bastore, 1) := by decide +kernel
theorem dX3_reachesAllWithout_19 : decode cX3_reachesAllWithout 19 = .ok (.iinc 3 1, 3) := by decide +kernel
theorem dX3_reachesAllWithout_22 : decode cX3_reachesAllWithout 22 = .ok (.goto (-15), 3) := by decide +kernel
theorem dX3_reachesAllWithout_25 : decode cX3_reachesAllWithout 25 = .ok (.aload_n 0, 1) := by decide +kernel
theorem dX3_reachesAllWithout_26 : decode cX3_reachesAllWithout 26 = .ok (.getfield 42, 3) := by decide +kernel
theorem dX3_reachesAllWithout_29 : decode cX3_reachesAllWithout 29 = .ok (.iconst 0, 1) := by decide +kernel
theorem dX3_reachesAllWithout_30 : decode cX3_reachesAllWithout 30 = .ok (.iconst 1, 1) := by decide +kernel
theorem dX3_reachesAllWithout_31 : decode cX3_reachesAllWithout 31 = .ok (.bastore, 1) := by decide +kernel
theorem dX3_reachesAllWithout_32 : decode cX3_reachesAllWithout 32 = .ok (.iconst 0, 1) := by decide +kernel
theorem dX3_reachesAllWithout_33 : decode cX3_reachesAllWithout 33 = .ok (.istore_n 3, 1) := by decide +kernel
theorem dX3_reachesAllWithout_34 : decode cX3_reachesAllWithout 34 = .ok (.iload_n 3, 1) := by decide +kernel
theorem dX3_reachesAllWithout_35 : decode cX3_reachesAllWithout 35 = .ok (.iload_n 2, 1) := by decide +kernel
theorem dX3_reachesAllWithout_36 : decode cX3_reachesAllWithout 36 = .ok (.if_icmp .ge 80, 3) := by decide +kernel
theorem dX3_reachesAllWithout_39 : decode cX3_reachesAllWithout 39 = .ok (.iconst 0, 1) := by decide +kernel
theorem dX3_reachesAllWithout_40 : decode cX3_reachesAllWithout 40 = .ok (.istore 4, 2) := by decide +kernel
theorem dX3_reachesAllWithout_42 : decode cX3_reachesAllWithout 42 = .ok (.iload 4, 2) := by decide +kernel
theorem dX3_reachesAllWithout_44 : decode cX3_reachesAllWithout 44 = .ok (.aload_n 0, 1) := by decide +kernel
theorem dX3_reachesAllWithout_45 : decode cX3_reachesAllWithout 45 = .ok (.getfield 60, 3) := by decide +kernel
theorem dX3_reachesAllWithout_48 : decode cX3_reachesAllWithout 48 = .ok (.getfield 79, 3) := by decide +kernel
theorem dX3_reachesAllWithout_51 : decode cX3_reachesAllWithout 51 = .ok (.if_icmp .ge 59, 3) := by decide +kernel
theorem dX3_reachesAllWithout_54 : decode cX3_reachesAllWithout 54 = .ok (.aload_n 0, 1) := by decide +kernel
theorem dX3_reachesAllWithout_55 : decode cX3_reachesAllWithout 55 = .ok (.getfield 42, 3) := by decide +kernel
theorem dX3_reachesAllWithout_58 : decode cX3_reachesAllWithout 58 = .ok (.iload_n 3, 1) := by decide +kernel
theorem dX3_reachesAllWithout_59 : decode cX3_reachesAllWithout 59 = .ok (.baload, 1) := by decide +kernel
theorem dX3_reachesAllWithout_60 : decode cX3_reachesAllWithout 60 = .ok (.ifCond .eq 50, 3) := by decide +kernel
theorem dX3_reachesAllWithout_63 : decode cX3_reachesAllWithout 63 = .ok (.aload_n 0, 1) := by decide +kernel
theorem dX3_reachesAllWithout_64 : decode cX3_reachesAllWithout 64 = .ok (.getfield 18, 3) := by decide +kernel
theorem dX3_reachesAllWithout_67 : decode cX3_reachesAllWithout 67 = .ok (.iload_n 3, 1) := by decide +kernel
theorem dX3_reachesAllWithout_68 : decode cX3_reachesAllWithout 68 = .ok (.bipush 8, 2) := by decide +kernel
theorem dX3_reachesAllWithout_70 : decode cX3_reachesAllWithout 70 = .ok (.imul, 1) := by decide +kernel
theorem dX3_reachesAllWithout_71 : decode cX3_reachesAllWithout 71 = .ok (.iload 4, 2) := by decide +kernel
theorem dX3_reachesAllWithout_73 : decode cX3_reachesAllWithout 73 = .ok (.iadd, 1) := by decide +kernel
theorem dX3_reachesAllWithout_74 : decode cX3_reachesAllWithout 74 = .ok (.iaload, 1) := by decide +kernel
theorem dX3_reachesAllWithout_75 : decode cX3_reachesAllWithout 75 = .ok (.istore 5, 2) := by decide +kernel
theorem dX3_reachesAllWithout_77 : decode cX3_reachesAllWithout 77 = .ok (.iload 5, 2) := by decide +kernel
theorem dX3_reachesAllWithout_79 : decode cX3_reachesAllWithout 79 = .ok (.iconst (-1), 1) := by decide +kernel
theorem dX3_reachesAllWithout_80 : decode cX3_reachesAllWithout 80 = .ok (.if_icmp .eq 24, 3) := by decide +kernel
theorem dX3_reachesAllWithout_83 : decode cX3_reachesAllWithout 83 = .ok (.iload 5, 2) := by decide +kernel
theorem dX3_reachesAllWithout_85 : decode cX3_reachesAllWithout 85 = .ok (.iload_n 1, 1) := by decide +kernel
theorem dX3_reachesAllWithout_86 : decode cX3_reachesAllWithout 86 = .ok (.iconst (-1), 1) := by decide +kernel
theorem dX3_reachesAllWithout_87 : decode cX3_reachesAllWithout 87 = .ok (.ixor, 1) := by decide +kernel
theorem dX3_reachesAllWithout_88 : decode cX3_reachesAllWithout 88 = .ok (.iand, 1) := by decide +kernel
theorem dX3_reachesAllWithout_89 : decode cX3_reachesAllWithout 89 = .ok (.ifCond .ne 15, 3) := by decide +kernel
theorem dX3_reachesAllWithout_92 : decode cX3_reachesAllWithout 92 = .ok (.aload_n 0, 1) := by decide +kernel
theorem dX3_reachesAllWithout_93 : decode cX3_reachesAllWithout 93 = .ok (.getfield 42, 3) := by decide +kernel
theorem dX3_reachesAllWithout_96 : decode cX3_reachesAllWithout 96 = .ok (.iload_n 3, 1) := by decide +kernel
theorem dX3_reachesAllWithout_97 : decode cX3_reachesAllWithout 97 = .ok (.iconst 1, 1) := by decide +kernel
theorem dX3_reachesAllWithout_98 : decode cX3_reachesAllWithout 98 = .ok (.iload 4, 2) := by decide +kernel
theorem dX3_reachesAllWithout_100 : decode cX3_reachesAllWithout 100 = .ok (.ishl, 1) := by decide +kernel
theorem dX3_reachesAllWithout_101 : decode cX3_reachesAllWithout 101 = .ok (.ior, 1) := by decide +kernel
theorem dX3_reachesAllWithout_102 : decode cX3_reachesAllWithout 102 = .ok (.iconst 1, 1) := by decide +kernel
theorem dX3_reachesAllWithout_103 : decode cX3_reachesAllWithout 103 = .ok (.bastore, 1) := by decide +kernel
theorem dX3_reachesAllWithout_104 : decode cX3_reachesAllWithout 104 = .ok (.iinc 4 1, 3) := by decide +kernel
theorem dX3_reachesAllWithout_107 : decode cX3_reachesAllWithout 107 = .ok (.goto (-65), 3) := by decide +kernel
theorem dX3_reachesAllWithout_110 : decode cX3_reachesAllWithout 110 = .ok (.iinc 3 1, 3) := by decide +kernel
theorem dX3_reachesAllWithout_113 : decode cX3_reachesAllWithout 113 = .ok (.goto (-79), 3) := by decide +kernel
theorem dX3_reachesAllWithout_116 : decode cX3_reachesAllWithout 116 = .ok (.aload_n 0, 1) := by decide +kernel
theorem dX3_reachesAllWithout_117 : decode cX3_reachesAllWithout 117 = .ok (.getfield 42, 3) := by decide +kernel
theorem dX3_reachesAllWithout_120 : decode cX3_reachesAllWithout 120 = .ok (.iload_n 2, 1) := by decide +kernel
theorem dX3_reachesAllWithout_121 : decode cX3_reachesAllWithout 121 = .ok (.baload, 1) := by decide +kernel
theorem dX3_reachesAllWithout_122 : decode cX3_reachesAllWithout 122 = .ok (.ireturn, 1) := by decide +kernel
theorem dX4_init_0 : decode cX4_init 0 = .ok (.aload_n 0, 1) := by decide +kernel
theorem dX4_init_1 : decode cX4_init 1 = .ok (.invokespecial 3, 3) := by decide +kernel
theorem dX4_init_4 : decode cX4_init 4 = .ok (.aload_n 0, 1) := by decide +kernel
theorem dX4_init_5 : decode cX4_init 5 = .ok (.bipush 40, 2) := by decide +kernel
theorem dX4_init_7 : decode cX4_init 7 = .ok (.newarray .int, 2) := by decide +kernel
theorem dX4_init_9 : decode cX4_init 9 = .ok (.putfield 9, 3) := by decide +kernel
theorem dX4_init_12 : decode cX4_init 12 = .ok (.aload_n 0, 1) := by decide +kernel
theorem dX4_init_13 : decode cX4_init 13 = .ok (.iconst 1, 1) := by decide +kernel
theorem dX4_init_14 : decode cX4_init 14 = .ok (.putfield 15, 3) := by decide +kernel
theorem dX4_init_17 : decode cX4_init 17 = .ok (.aload_n 0, 1) := by decide +kernel
theorem dX4_init_18 : decode cX4_init 18 = .ok (.iconst 0, 1) := by decide +kernel
theorem dX4_init_19 : decode cX4_init 19 = .ok (.putfield 19, 3) := by decide +kernel
theorem dX4_init_22 : decode cX4_init 22 = .ok (.aload_n 0, 1) := by decide +kernel
theorem dX4_init_23 : decode cX4_init 23 = .ok (.iconst 0, 1) := by decide +kernel
theorem dX4_init_24 : decode cX4_init 24 = .ok (.putfield 23, 3) := by decide +kernel
theorem dX4_init_27 : decode cX4_init 27 = .ok (.return_, 1) := by decide +kernel
theorem dX4_renew_0 : decode cX4_renew 0 = .ok (.iconst 0, 1) := by decide +kernel
theorem dX4_renew_1 : decode cX4_renew 1 = .ok (.istore_n 3, 1) := by decide +kernel
theorem dX4_renew_2 : decode cX4_renew 2 = .ok (.iload_n 3, 1) := by decide +kernel
theorem dX4_renew_3 : decode cX4_renew 3 = .ok (.bipush 40, 2) := by decide +kernel
theorem dX4_renew_5 : decode cX4_renew 5 = .ok (.if_icmp .ge 16, 3) := by decide +kernel
theorem dX4_renew_8 : decode cX4_renew 8 = .ok (.aload_n 0, 1) := by decide +kernel
theorem dX4_renew_9 : decode cX4_renew 9 = .ok (.getfield 9, 3) := by decide +kernel
theorem dX4_renew_12 : decode cX4_renew 12 = .ok (.iload_n 3, 1) := by decide +kernel
theorem dX4_renew_13 : decode cX4_renew 13 = .ok (.iconst 0, 1) := by decide +kernel
theorem dX4_renew_14 : decode cX4_renew 14 = .ok (.iastore, 1) := by decide +kernel
theorem dX4_renew_15 : decode cX4_renew 15 = .ok (.iinc 3 1, 3) := by decide +kernel
theorem dX4_renew_18 : decode cX4_renew 18 = .ok (.goto (-16), 3) := by decide +kernel
theorem dX4_renew_21 : decode cX4_renew 21 = .ok (.aload_n 0, 1) := by decide +kernel
theorem dX4_renew_22 : decode cX4_renew 22 = .ok (.iconst 0, 1) := by decide +kernel
theorem dX4_renew_23 : decode cX4_renew 23 = .ok (.putfield 15, 3) := by decide +kernel
theorem dX4_renew_26 : decode cX4_renew 26 = .ok (.aload_n 0, 1) := by decide +kernel
theorem dX4_renew_27 : decode cX4_renew 27 = .ok (.iload_n 1, 1) := by decide +kernel
theorem dX4_renew_28 : decode cX4_renew 28 = .ok (.putfield 19, 3) := by decide +kernel
theorem dX4_renew_31 : decode cX4_renew 31 = .ok (.aload_n 0, 1) := by decide +kernel
theorem dX4_renew_32 : decode cX4_renew 32 = .ok (.iload_n 2, 1) := by decide +kernel
theorem dX4_renew_33 : decode cX4_renew 33 = .ok (.putfield 23, 3) := by decide +kernel
theorem dX4_renew_36 : decode cX4_renew 36 = .ok (.return_, 1) := by decide +kernel
theorem dX4_findingAt_0 : decode cX4_findingAt 0 = .ok (.aload_n 0, 1) := by decide +kernel
theorem dX4_findingAt_1 : decode cX4_findingAt 1 = .ok (.getfield 15, 3) := by decide +kernel
theorem dX4_findingAt_4 : decode cX4_findingAt 4 = .ok (.ifCond .eq 5, 3) := by decide +kernel
theorem dX4_findingAt_7 : decode cX4_findingAt 7 = .ok (.iconst 1, 1) := by decide +kernel
theorem dX4_findingAt_8 : decode cX4_findingAt 8 = .ok (.ireturn, 1) := by decide +kernel
theorem dX4_findingAt_9 : decode cX4_findingAt 9 = .ok (.aload_n 0, 1) := by decide +kernel
theorem dX4_findingAt_10 : decode cX4_findingAt 10 = .ok (.getfield 19, 3) := by decide +kernel
theorem dX4_findingAt_13 : decode cX4_findingAt 13 = .ok (.iload_n 1, 1) := by decide +kernel
theorem dX4_findingAt_14 : decode cX4_findingAt 14 = .ok (.if_icmp .eq 5, 3) := by decide +kernel
theorem dX4_findingAt_17 : decode cX4_findingAt 17 = .ok (.iconst 3, 1) := by decide +kernel
theorem dX4_findingAt_18 : decode cX4_findingAt 18 = .ok (.ireturn, 1) := by decide +kernel
theorem dX4_findingAt_19 : decode cX4_findingAt 19 = .ok (.iload_n 2, 1) := by decide +kernel
theorem dX4_findingAt_20 : decode cX4_findingAt 20 = .ok (.ifCond .lt 11, 3) := by decide +kernel
theorem dX4_findingAt_23 : decode cX4_findingAt 23 = .ok (.iload_n 2, 1) := by decide +kernel
theorem dX4_findingAt_24 : decode cX4_findingAt 24 = .ok (.aload_n 0, 1) := by decide +kernel
theorem dX4_findingAt_25 : decode cX4_findingAt 25 = .ok (.getfield 23, 3) := by decide +kernel
theorem dX4_findingAt_28 : decode cX4_findingAt 28 = .ok (.if_icmp .lt 7, 3) := by decide +kernel
theorem dX4_findingAt_31 : decode cX4_findingAt 31 = .ok (.iconst 2, 1) := by decide +kernel
theorem dX4_findingAt_32 : decode cX4_findingAt 32 = .ok (.goto 4, 3) := by decide +kernel
theorem dX4_findingAt_35 : decode cX4_findingAt 35 = .ok (.iconst 0, 1) := by decide +kernel
theorem dX4_findingAt_36 : decode cX4_findingAt 36 = .ok (.ireturn, 1) := by decide +kernel
theorem dX4_holdsRun_0 : decode cX4_holdsRun 0 = .ok (.iload_n 1, 1) := by decide +kernel
theorem dX4_holdsRun_1 : decode cX4_holdsRun 1 = .ok (.ifCond .lt 21, 3) := by decide +kernel
theorem dX4_holdsRun_4 : decode cX4_holdsRun 4 = .ok (.iload_n 2, 1) := by decide +kernel
theorem dX4_holdsRun_5 : decode cX4_holdsRun 5 = .ok (.ifCond .lt 17, 3) := by decide +kernel
theorem dX4_holdsRun_8 : decode cX4_holdsRun 8 = .ok (.iload_n 1, 1) := by decide +kernel
theorem dX4_holdsRun_9 : decode cX4_holdsRun 9 = .ok (.aload_n 0, 1) := by decide +kernel
theorem dX4_holdsRun_10 : decode cX4_holdsRun 10 = .ok (.getfield 23, 3) := by decide +kernel
theorem dX4_holdsRun_13 : decode cX4_holdsRun 13 = .ok (.iload_n 2, 1) := by decide +kernel
theorem dX4_holdsRun_14 : decode cX4_holdsRun 14 = .ok (.isub, 1) := by decide +kernel
theorem dX4_holdsRun_15 : decode cX4_holdsRun 15 = .ok (.if_icmp .gt 7, 3) := by decide +kernel
theorem dX4_holdsRun_18 : decode cX4_holdsRun 18 = .ok (.iconst 1, 1) := by decide +kernel
theorem dX4_holdsRun_19 : decode cX4_holdsRun 19 = .ok (.goto 4, 3) := by decide +kernel
theorem dX4_holdsRun_22 : decode cX4_holdsRun 22 = .ok (.iconst 0, 1) := by decide +kernel
theorem dX4_holdsRun_23 : decode cX4_holdsRun 23 = .ok (.ireturn, 1) := by decide +kernel
theorem dX4_store_0 : decode cX4_store 0 = .ok (.aload_n 0, 1) := by decide +kernel
theorem dX4_store_1 : decode cX4_store 1 = .ok (.getfield 19, 3) := by decide +kernel
theorem dX4_store_4 : decode cX4_store 4 = .ok (.ifCond .ne 14, 3) := by decide +kernel
theorem dX4_store_7 : decode cX4_store 7 = .ok (.aload_n 0, 1) := by decide +kernel
theorem dX4_store_8 : decode cX4_store 8 = .ok (.getfield 9, 3) := by decide +kernel
theorem dX4_store_11 : decode cX4_store 11 = .ok (.iload_n 1, 1) := by decide +kernel
theorem dX4_store_12 : decode cX4_store 12 = .ok (.iload_n 2, 1) := by decide +kernel
theorem dX4_store_13 : decode cX4_store 13 = .ok (.i2b, 1) := by decide +kernel
theorem dX4_store_14 : decode cX4_store 14 = .ok (.iastore, 1) := by decide +kernel
theorem dX4_store_15 : decode cX4_store 15 = .ok (.goto 23, 3) := by decide +kernel
theorem dX4_store_18 : decode cX4_store 18 = .ok (.aload_n 0, 1) := by decide +kernel
theorem dX4_store_19 : decode cX4_store 19 = .ok (.getfield 9, 3) := by decide +kernel
theorem dX4_store_22 : decode cX4_store 22 = .ok (.iload_n 1, 1) := by decide +kernel
theorem dX4_store_23 : decode cX4_store 23 = .ok (.aload_n 0, 1) := by decide +kernel
theorem dX4_store_24 : decode cX4_store 24 = .ok (.getfield 19, 3) := by decide +kernel
theorem dX4_store_27 : decode cX4_store 27 = .ok (.iconst 1, 1) := by decide +kernel
theorem dX4_store_28 : decode cX4_store 28 = .ok (.if_icmp .ne 8, 3) := by decide +kernel
theorem dX4_store_31 : decode cX4_store 31 = .ok (.iload_n 2, 1) := by decide +kernel
theorem dX4_store_32 : decode cX4_store 32 = .ok (.i2s, 1) := by decide +kernel
theorem dX4_store_33 : decode cX4_store 33 = .ok (.goto 4, 3) := by decide +kernel
theorem dX4_store_36 : decode cX4_store 36 = .ok (.iload_n 2, 1) := by decide +kernel
theorem dX4_store_37 : decode cX4_store 37 = .ok (.iastore, 1) := by decide +kernel
theorem dX4_store_38 : decode cX4_store 38 = .ok (.return_, 1) := by decide +kernel
theorem dX5_init_0 : decode cX5_init 0 = .ok (.aload_n 0, 1) := by decide +kernel
theorem dX5_init_1 : decode cX5_init 1 = .ok (.invokespecial 3, 3) := by decide +kernel
theorem dX5_init_4 : decode cX5_init 4 = .ok (.aload_n 0, 1) := by decide +kernel
theorem dX5_init_5 : decode cX5_init 5 = .ok (.bipush 8, 2) := by decide +kernel
theorem dX5_init_7 : decode cX5_init 7 = .ok (.newarray .int, 2) := by decide +kernel
theorem dX5_init_9 : decode cX5_init 9 = .ok (.putfield 9, 3) := by decide +kernel
theorem dX5_init_12 : decode cX5_init 12 = .ok (.aload_n 0, 1) := by decide +kernel
theorem dX5_init_13 : decode cX5_init 13 = .ok (.bipush 8, 2) := by decide +kernel
theorem dX5_init_15 : decode cX5_init 15 = .ok (.newarray .int, 2) := by decide +kernel
theorem dX5_init_17 : decode cX5_init 17 = .ok (.putfield 15, 3) := by decide +kernel
theorem dX5_init_20 : decode cX5_init 20 = .ok (.aload_n 0, 1) := by decide +kernel
theorem dX5_init_21 : decode cX5_init 21 = .ok (.bipush 8, 2) := by decide +kernel
theorem dX5_init_23 : decode cX5_init 23 = .ok (.newarray .int, 2) := by decide +kernel
theorem dX5_init_25 : decode cX5_init 25 = .ok (.putfield 18, 3) := by decide +kernel
theorem dX5_init_28 : decode cX5_init 28 = .ok (.aload_n 0, 1) := by decide +kernel
theorem dX5_init_29 : decode cX5_init 29 = .ok (.bipush 8, 2) := by decide +kernel
theorem dX5_init_31 : decode cX5_init 31 = .ok (.newarray .int, 2) := by decide +kernel
theorem dX5_init_33 : decode cX5_init 33 = .ok (.putfield 21, 3) := by decide +kernel
theorem dX5_init_36 : decode cX5_init 36 = .ok (.aload_n 0, 1) := by decide +kernel
theorem dX5_init_37 : decode cX5_init 37 = .ok (.iconst 0, 1) := by decide +kernel
theorem dX5_init_38 : decode cX5_init 38 = .ok (.putfield 24, 3) := by decide +kernel
theorem dX5_init_41 : decode cX5_init 41 = .ok (.aload_n 0, 1) := by decide +kernel
theorem dX5_init_42 : decode cX5_init 42 = .ok (.iconst 0, 1) := by decide +kernel
theorem dX5_init_43 : decode cX5_init 43 = .ok (.putfield 28, 3) := by decide +kernel
theorem dX5_init_46 : decode cX5_init 46 = .ok (.aload_n 0, 1) := by decide +kernel
theorem dX5_init_47 : decode cX5_init 47 = .ok (.iconst 0, 1) := by decide +kernel
theorem dX5_init_48 : decode cX5_init 48 = .ok (.putfield 31, 3) := by decide +kernel
theorem dX5_init_51 : decode cX5_init 51 = .ok (.aload_n 0, 1) := by decide +kernel
theorem dX5_init_52 : decode cX5_init 52 = .ok (.sipush 1023, 3) := by decide +kernel
theorem dX5_init_55 : decode cX5_init 55 = .ok (.putfield 34, 3) := by decide +kernel
theorem dX5_init_58 : decode cX5_init 58 = .ok (.aload_n 0, 1) := by decide +kernel
theorem dX5_init_59 : decode cX5_init 59 = .ok (.iconst 0, 1) := by decide +kernel
theorem dX5_init_60 : decode cX5_init 60 = .ok (.putfield 37, 3) := by decide +kernel
theorem dX5_init_63 : decode cX5_init 63 = .ok (.return_, 1) := by decide +kernel
theorem dX5_dig_0 : decode cX5_dig 0 = .ok (.aload_n 0, 1) := by decide +kernel
theorem dX5_dig_1 : decode cX5_dig 1 = .ok (.getfield 9, 3) := by decide +kernel
theorem dX5_dig_4 : decode cX5_dig 4 = .ok (.aload_n 0, 1) := by decide +kernel
theorem dX5_dig_5 : decode cX5_dig 5 = .ok (.getfield 24, 3) := by decide +kernel
theorem dX5_dig_8 : decode cX5_dig 8 = .ok (.iload_n 1, 1) := by decide +kernel
theorem dX5_dig_9 : decode cX5_dig 9 = .ok (.iastore, 1) := by decide +kernel
theorem dX5_dig_10 : decode cX5_dig 10 = .ok (.aload_n 0, 1) := by decide +kernel
theorem dX5_dig_11 : decode cX5_dig 11 = .ok (.getfield 15, 3) := by decide +kernel
theorem dX5_dig_14 : decode cX5_dig 14 = .ok (.aload_n 0, 1) := by decide +kernel
theorem dX5_dig_15 : decode cX5_dig 15 = .ok (.getfield 24, 3) := by decide +kernel
theorem dX5_dig_18 : decode cX5_dig 18 = .ok (.iload_n 2, 1) := by decide +kernel
theorem dX5_dig_19 : decode cX5_dig 19 = .ok (.iastore, 1) := by decide +kernel
theorem dX5_dig_20 : decode cX5_dig 20 = .ok (.aload_n 0, 1) := by decide +kernel
theorem dX5_dig_21 : decode cX5_dig 21 = .ok (.dup, 1) := by decide +kernel
theorem dX5_dig_22 : decode cX5_dig 22 = .ok (.getfield 24, 3) := by decide +kernel
theorem dX5_dig_25 : decode cX5_dig 25 = .ok (.iconst 1, 1) := by decide +kernel
theorem dX5_dig_26 : decode cX5_dig 26 = .ok (.iadd, 1) := by decide +kernel
theorem dX5_dig_27 : decode cX5_dig 27 = .ok (.putfield 24, 3) := by decide +kernel
theorem dX5_dig_30 : decode cX5_dig 30 = .ok (.aload_n 0, 1) := by decide +kernel
theorem dX5_dig_31 : decode cX5_dig 31 = .ok (.getfield 24, 3) := by decide +kernel
theorem dX5_dig_34 : decode cX5_dig 34 = .ok (.iconst 1, 1) := by decide +kernel
theorem dX5_dig_35 : decode cX5_dig 35 = .ok (.isub, 1) := by decide +kernel
theorem dX5_dig_36 : decode cX5_dig 36 = .ok (.ireturn, 1) := by decide +kernel
theorem dX5_reweigh_0 : decode cX5_reweigh 0 = .ok (.aload_n 0, 1) := by decide +kernel
theorem dX5_reweigh_1 : decode cX5_reweigh 1 = .ok (.iconst 1, 1) := by decide +kernel
theorem dX5_reweigh_2 : decode cX5_reweigh 2 = .ok (.iload_n 1, 1) := by decide +kernel
theorem dX5_reweigh_3 : decode cX5_reweigh 3 = .ok (.ishl, 1) := by decide +kernel
theorem dX5_reweigh_4 : decode cX5_reweigh 4 = .ok (.invokevirtual 40, 3) := by decide +kernel
theorem dX5_reweigh_7 : decode cX5_reweigh 7 = .ok (.istore_n 3, 1) := by decide +kernel
theorem dX5_reweigh_8 : decode cX5_reweigh 8 = .ok (.aload_n 0, 1) := by decide +kernel
theorem dX5_reweigh_9 : decode cX5_reweigh 9 = .ok (.aload_n 0, 1) := by decide +kernel
theorem dX5_reweigh_10 : decode cX5_reweigh 10 = .ok (.getfield 34, 3) := by decide +kernel
theorem dX5_reweigh_13 : decode cX5_reweigh 13 = .ok (.iconst 1, 1) := by decide +kernel
theorem dX5_reweigh_14 : decode cX5_reweigh 14 = .ok (.iload_n 1, 1) := by decide +kernel
theorem dX5_reweigh_15 : decode cX5_reweigh 15 = .ok (.ishl, 1) := by decide +kernel
theorem dX5_reweigh_16 : decode cX5_reweigh 16 = .ok (.iconst (-1), 1) := by decide +kernel
theorem dX5_reweigh_17 : decode cX5_reweigh 17 = .ok (.ixor, 1) := by decide +kernel
theorem dX5_reweigh_18 : decode cX5_reweigh 18 = .ok (.iand, 1) := by decide +kernel
theorem dX5_reweigh_19 : decode cX5_reweigh 19 = .ok (.iload_n 2, 1) := by decide +kernel
theorem dX5_reweigh_20 : decode cX5_reweigh 20 = .ok (.iconst 1, 1) := by decide +kernel
theorem dX5_reweigh_21 : decode cX5_reweigh 21 = .ok (.iand, 1) := by decide +kernel
theorem dX5_reweigh_22 : decode cX5_reweigh 22 = .ok (.iload_n 1, 1) := by decide +kernel
theorem dX5_reweigh_23 : decode cX5_reweigh 23 = .ok (.ishl, 1) := by decide +kernel
theorem dX5_reweigh_24 : decode cX5_reweigh 24 = .ok (.ior, 1) := by decide +kernel
theorem dX5_reweigh_25 : decode cX5_reweigh 25 = .ok (.putfield 34, 3) := by decide +kernel
theorem dX5_reweigh_28 : decode cX5_reweigh 28 = .ok (.aload_n 0, 1) := by decide +kernel
theorem dX5_reweigh_29 : decode cX5_reweigh 29 = .ok (.aload_n 0, 1) := by decide +kernel
theorem dX5_reweigh_30 : decode cX5_reweigh 30 = .ok (.getfield 37, 3) := by decide +kernel
theorem dX5_reweigh_33 : decode cX5_reweigh 33 = .ok (.iconst 1, 1) := by decide +kernel
theorem dX5_reweigh_34 : decode cX5_reweigh 34 = .ok (.iload_n 1, 1) := by decide +kernel
theorem dX5_reweigh_35 : decode cX5_reweigh 35 = .ok (.ishl, 1) := by decide +kernel
theorem dX5_reweigh_36 : decode cX5_reweigh 36 = .ok (.iconst (-1), 1) := by decide +kernel
theorem dX5_reweigh_37 : decode cX5_reweigh 37 = .ok (.ixor, 1) := by decide +kernel
theorem dX5_reweigh_38 : decode cX5_reweigh 38 = .ok (.iand, 1) := by decide +kernel
theorem dX5_reweigh_39 : decode cX5_reweigh 39 = .ok (.iload_n 2, 1) := by decide +kernel
theorem dX5_reweigh_40 : decode cX5_reweigh 40 = .ok (.iconst 1, 1) := by decide +kernel
theorem dX5_reweigh_41 : decode cX5_reweigh 41 = .ok (.ishr, 1) := by decide +kernel
theorem dX5_reweigh_42 : decode cX5_reweigh 42 = .ok (.iload_n 1, 1) := by decide +kernel
theorem dX5_reweigh_43 : decode cX5_reweigh 43 = .ok (.ishl, 1) := by decide +kernel
theorem dX5_reweigh_44 : decode cX5_reweigh 44 = .ok (.ior, 1) := by decide +kernel
theorem dX5_reweigh_45 : decode cX5_reweigh 45 = .ok (.putfield 37, 3) := by decide +kernel
theorem dX5_reweigh_48 : decode cX5_reweigh 48 = .ok (.iload_n 3, 1) := by decide +kernel
theorem dX5_reweigh_49 : decode cX5_reweigh 49 = .ok (.ireturn, 1) := by decide +kernel
theorem dX5_weigh_0 : decode cX5_weigh 0 = .ok (.iload_n 1, 1) := by decide +kernel
theorem dX5_weigh_1 : decode cX5_weigh 1 = .ok (.aload_n 0, 1) := by decide +kernel
theorem dX5_weigh_2 : decode cX5_weigh 2 = .ok (.getfield 34, 3) := by decide +kernel
theorem dX5_weigh_5 : decode cX5_weigh 5 = .ok (.iand, 1) := by decide +kernel
theorem dX5_weigh_6 : decode cX5_weigh 6 = .ok (.invokestatic 44, 3) := by decide +kernel
theorem dX5_weigh_9 : decode cX5_weigh 9 = .ok (.iconst 2, 1) := by decide +kernel
theorem dX5_weigh_10 : decode cX5_weigh 10 = .ok (.iload_n 1, 1) := by decide +kernel
theorem dX5_weigh_11 : decode cX5_weigh 11 = .ok (.aload_n 0, 1) := by decide +kernel
theorem dX5_weigh_12 : decode cX5_weigh 12 = .ok (.getfield 37, 3) := by decide +kernel
theorem dX5_weigh_15 : decode cX5_weigh 15 = .ok (.iand, 1) := by decide +kernel
theorem dX5_weigh_16 : decode cX5_weigh 16 = .ok (.invokestatic 44, 3) := by decide +kernel
theorem dX5_weigh_19 : decode cX5_weigh 19 = .ok (.imul, 1) := by decide +kernel
theorem dX5_weigh_20 : decode cX5_weigh 20 = .ok (.iadd, 1) := by decide +kernel
theorem dX5_weigh_21 : decode cX5_weigh 21 = .ok (.ireturn, 1) := by decide +kernel
theorem dX5_kindsOfAll_0 : decode cX5_kindsOfAll 0 = .ok (.iconst 0, 1) := by decide +kernel
theorem dX5_kindsOfAll_1 : decode cX5_kindsOfAll 1 = .ok (.istore_n 1, 1) := by decide +kernel
theorem dX5_kindsOfAll_2 : decode cX5_kindsOfAll 2 = .ok (.iconst 0, 1) := by decide +kernel
theorem dX5_kindsOfAll_3 : decode cX5_kindsOfAll 3 = .ok (.istore_n 2, 1) := by decide +kernel
theorem dX5_kindsOfAll_4 : decode cX5_kindsOfAll 4 = .ok (.iload_n 2, 1) := by decide +kernel
theorem dX5_kindsOfAll_5 : decode cX5_kindsOfAll 5 = .ok (.aload_n 0, 1) := by decide +kernel
theorem dX5_kindsOfAll_6 : decode cX5_kindsOfAll 6 = .ok (.getfield 24, 3) := by decide +kernel
theorem dX5_kindsOfAll_9 : decode cX5_kindsOfAll 9 = .ok (.if_icmp .ge 18, 3) := by decide +kernel
theorem dX5_kindsOfAll_12 : decode cX5_kindsOfAll 12 = .ok (.iload_n 1, 1) := by decide +kernel
theorem dX5_kindsOfAll_13 : decode cX5_kindsOfAll 13 = .ok (.aload_n 0, 1) := by decide +kernel
theorem dX5_kindsOfAll_14 : decode cX5_kindsOfAll 14 = .ok (.getfield 21, 3) := by decide +kernel
theorem dX5_kindsOfAll_17 : decode cX5_kindsOfAll 17 = .ok (.iload_n 2, 1) := by decide +kernel
theorem dX5_kindsOfAll_18 : decode cX5_kindsOfAll 18 = .ok (.iaload, 1) := by decide +kernel
theorem dX5_kindsOfAll_19 : decode cX5_kindsOfAll 19 = .ok (.ior, 1) := by decide +kernel
theorem dX5_kindsOfAll_20 : decode cX5_kindsOfAll 20 = .ok (.istore_n 1, 1) := by decide +kernel
theorem dX5_kindsOfAll_21 : decode cX5_kindsOfAll 21 = .ok (.iinc 2 1, 3) := by decide +kernel
theorem dX5_kindsOfAll_24 : decode cX5_kindsOfAll 24 = .ok (.goto (-20), 3) := by decide +kernel
theorem dX5_kindsOfAll_27 : decode cX5_kindsOfAll 27 = .ok (.iload_n 1, 1) := by decide +kernel
theorem dX5_kindsOfAll_28 : decode cX5_kindsOfAll 28 = .ok (.ireturn, 1) := by decide +kernel
theorem dX5_allFinds_0 : decode cX5_allFinds 0 = .ok (.iconst 0, 1) := by decide +kernel
theorem dX5_allFinds_1 : decode cX5_allFinds 1 = .ok (.istore_n 1, 1) := by decide +kernel
theorem dX5_allFinds_2 : decode cX5_allFinds 2 = .ok (.iconst 0, 1) := by decide +kernel
theorem dX5_allFinds_3 : decode cX5_allFinds 3 = .ok (.istore_n 2, 1) := by decide +kernel
theorem dX5_allFinds_4 : decode cX5_allFinds 4 = .ok (.iload_n 2, 1) := by decide +kernel
theorem dX5_allFinds_5 : decode cX5_allFinds 5 = .ok (.aload_n 0, 1) := by decide +kernel
theorem dX5_allFinds_6 : decode cX5_allFinds 6 = .ok (.getfield 24, 3) := by decide +kernel
theorem dX5_allFinds_9 : decode cX5_allFinds 9 = .ok (.if_icmp .ge 21, 3) := by decide +kernel
theorem dX5_allFinds_12 : decode cX5_allFinds 12 = .ok (.iload_n 1, 1) := by decide +kernel
theorem dX5_allFinds_13 : decode cX5_allFinds 13 = .ok (.aload_n 0, 1) := by decide +kernel
theorem dX5_allFinds_14 : decode cX5_allFinds 14 = .ok (.getfield 21, 3) := by decide +kernel
theorem dX5_allFinds_17 : decode cX5_allFinds 17 = .ok (.iload_n 2, 1) := by decide +kernel
theorem dX5_allFinds_18 : decode cX5_allFinds 18 = .ok (.iaload, 1) := by decide +kernel
theorem dX5_allFinds_19 : decode cX5_allFinds 19 = .ok (.invokestatic 44, 3) := by decide +kernel
theorem dX5_allFinds_22 : decode cX5_allFinds 22 = .ok (.iadd, 1) := by decide +kernel
theorem dX5_allFinds_23 : decode cX5_allFinds 23 = .ok (.istore_n 1, 1) := by decide +kernel
theorem dX5_allFinds_24 : decode cX5_allFinds 24 = .ok (.iinc 2 1, 3) := by decide +kernel
theorem dX5_allFinds_27 : decode cX5_allFinds 27 = .ok (.goto (-23), 3) := by decide +kernel
theorem dX5_allFinds_30 : decode cX5_allFinds 30 = .ok (.iload_n 1, 1) := by decide +kernel
theorem dX5_allFinds_31 : decode cX5_allFinds 31 = .ok (.ireturn, 1) := by decide +kernel
theorem dX5_isOrder_0 : decode cX5_isOrder 0 = .ok (.iload_n 2, 1) := by decide +kernel
theorem dX5_isOrder_1 : decode cX5_isOrder 1 = .ok (.aload_n 0, 1) := by decide +kernel
theorem dX5_isOrder_2 : decode cX5_isOrder 2 = .ok (.getfield 24, 3) := by decide +kernel
theorem dX5_isOrder_5 : decode cX5_isOrder 5 = .ok (.if_icmp .eq 5, 3) := by decide +kernel
theorem dX5_isOrder_8 : decode cX5_isOrder 8 = .ok (.iconst 0, 1) := by decide +kernel
theorem dX5_isOrder_9 : decode cX5_isOrder 9 = .ok (.ireturn, 1) := by decide +kernel
theorem dX5_isOrder_10 : decode cX5_isOrder 10 = .ok (.iconst 0, 1) := by decide +kernel
theorem dX5_isOrder_11 : decode cX5_isOrder 11 = .ok (.istore_n 3, 1) := by decide +kernel
theorem dX5_isOrder_12 : decode cX5_isOrder 12 = .ok (.iconst 0, 1) := by decide +kernel
theorem dX5_isOrder_13 : decode cX5_isOrder 13 = .ok (.istore 4, 2) := by decide +kernel
theorem dX5_isOrder_15 : decode cX5_isOrder 15 = .ok (.iload 4, 2) := by decide +kernel
theorem dX5_isOrder_17 : decode cX5_isOrder 17 = .ok (.aload_n 0, 1) := by decide +kernel
theorem dX5_isOrder_18 : decode cX5_isOrder 18 = .ok (.getfield 24, 3) := by decide +kernel
theorem dX5_isOrder_21 : decode cX5_isOrder 21 = .ok (.if_icmp .ge 47, 3) := by decide +kernel
theorem dX5_isOrder_24 : decode cX5_isOrder 24 = .ok (.aload_n 1, 1) := by decide +kernel
theorem dX5_isOrder_25 : decode cX5_isOrder 25 = .ok (.iload 4, 2) := by decide +kernel
theorem dX5_isOrder_27 : decode cX5_isOrder 27 = .ok (.iaload, 1) := by decide +kernel
theorem dX5_isOrder_28 : decode cX5_isOrder 28 = .ok (.istore 5, 2) := by decide +kernel
theorem dX5_isOrder_30 : decode cX5_isOrder 30 = .ok (.iload 5, 2) := by decide +kernel
theorem dX5_isOrder_32 : decode cX5_isOrder 32 = .ok (.ifCond .lt 21, 3) := by decide +kernel
theorem dX5_isOrder_35 : decode cX5_isOrder 35 = .ok (.iload 5, 2) := by decide +kernel
theorem dX5_isOrder_37 : decode cX5_isOrder 37 = .ok (.aload_n 0, 1) := by decide +kernel
theorem dX5_isOrder_38 : decode cX5_isOrder 38 = .ok (.getfield 24, 3) := by decide +kernel
theorem dX5_isOrder_41 : decode cX5_isOrder 41 = .ok (.if_icmp .ge 12, 3) := by decide +kernel
theorem dX5_isOrder_44 : decode cX5_isOrder 44 = .ok (.iload_n 3, 1) := by decide +kernel
theorem dX5_isOrder_45 : decode cX5_isOrder 45 = .ok (.iload 5, 2) := by decide +kernel
theorem dX5_isOrder_47 : decode cX5_isOrder 47 = .ok (.ishr, 1) := by decide +kernel
theorem dX5_isOrder_48 : decode cX5_isOrder 48 = .ok (.iconst 1, 1) := by decide +kernel
theorem dX5_isOrder_49 : decode cX5_isOrder 49 = .ok (.iand, 1) := by decide +kernel
theorem dX5_isOrder_50 : decode cX5_isOrder 50 = .ok (.ifCond .eq 5, 3) := by decide +kernel
theorem dX5_isOrder_53 : decode cX5_isOrder 53 = .ok (.iconst 0, 1) := by decide +kernel
theorem dX5_isOrder_54 : decode cX5_isOrder 54 = .ok (.ireturn, 1) := by decide +kernel
theorem dX5_isOrder_55 : decode cX5_isOrder 55 = .ok (.iload_n 3, 1) := by decide +kernel
theorem dX5_isOrder_56 : decode cX5_isOrder 56 = .ok (.iconst 1, 1) := by decide +kernel
theorem dX5_isOrder_57 : decode cX5_isOrder 57 = .ok (.iload 5, 2) := by decide +kernel
theorem dX5_isOrder_59 : decode cX5_isOrder 59 = .ok (.ishl, 1) := by decide +kernel
theorem dX5_isOrder_60 : decode cX5_isOrder 60 = .ok (.ior, 1) := by decide +kernel
theorem dX5_isOrder_61 : decode cX5_isOrder 61 = .ok (.istore_n 3, 1) := by decide +kernel
theorem dX5_isOrder_62 : decode cX5_isOrder 62 = .ok (.iinc 4 1, 3) := by decide +kernel
theorem dX5_isOrder_65 : decode cX5_isOrder 65 = .ok (.goto (-50), 3) := by decide +kernel
theorem dX5_isOrder_68 : decode cX5_isOrder 68 = .ok (.iconst 1, 1) := by decide +kernel
theorem dX5_isOrder_69 : decode cX5_isOrder 69 = .ok (.ireturn, 1) := by decide +kernel
theorem dX5_canBe_0 : decode cX5_canBe 0 = .ok (.iconst 0, 1) := by decide +kernel
theorem dX5_canBe_1 : decode cX5_canBe 1 = .ok (.istore_n 2, 1) := by decide +kernel
theorem dX5_canBe_2 : decode cX5_canBe 2 = .ok (.iconst 0, 1) := by decide +kernel
theorem dX5_canBe_3 : decode cX5_canBe 3 = .ok (.istore_n 3, 1) := by decide +kernel
theorem dX5_canBe_4 : decode cX5_canBe 4 = .ok (.iconst 0, 1) := by decide +kernel
theorem dX5_canBe_5 : decode cX5_canBe 5 = .ok (.istore 4, 2) := by decide +kernel
theorem dX5_canBe_7 : decode cX5_canBe 7 = .ok (.iload 4, 2) := by decide +kernel
theorem dX5_canBe_9 : decode cX5_canBe 9 = .ok (.aload_n 0, 1) := by decide +kernel
theorem dX5_canBe_10 : decode cX5_canBe 10 = .ok (.getfield 24, 3) := by decide +kernel
theorem dX5_canBe_13 : decode cX5_canBe 13 = .ok (.if_icmp .ge 61, 3) := by decide +kernel
theorem dX5_canBe_16 : decode cX5_canBe 16 = .ok (.aload_n 1, 1) := by decide +kernel
theorem dX5_canBe_17 : decode cX5_canBe 17 = .ok (.iload 4, 2) := by decide +kernel
theorem dX5_canBe_19 : decode cX5_canBe 19 = .ok (.iaload, 1) := by decide +kernel
theorem dX5_canBe_20 : decode cX5_canBe 20 = .ok (.istore 5, 2) := by decide +kernel
theorem dX5_canBe_22 : decode cX5_canBe 22 = .ok (.iload_n 3, 1) := by decide +kernel
theorem dX5_canBe_23 : decode cX5_canBe 23 = .ok (.aload_n 0, 1) := by decide +kernel
theorem dX5_canBe_24 : decode cX5_canBe 24 = .ok (.getfield 9, 3) := by decide +kernel
theorem dX5_canBe_27 : decode cX5_canBe 27 = .ok (.iload 5, 2) := by decide +kernel
theorem dX5_canBe_29 : decode cX5_canBe 29 = .ok (.iaload, 1) := by decide +kernel
theorem dX5_canBe_30 : decode cX5_canBe 30 = .ok (.invokestatic 49, 3) := by decide +kernel
theorem dX5_canBe_33 : decode cX5_canBe 33 = .ok (.istore_n 3, 1) := by decide +kernel
theorem dX5_canBe_34 : decode cX5_canBe 34 = .ok (.iload_n 3, 1) := by decide +kernel
theorem dX5_canBe_35 : decode cX5_canBe 35 = .ok (.aload_n 0, 1) := by decide +kernel
theorem dX5_canBe_36 : decode cX5_canBe 36 = .ok (.getfield 15, 3) := by decide +kernel
theorem dX5_canBe_39 : decode cX5_canBe 39 = .ok (.iload 5, 2) := by decide +kernel
theorem dX5_canBe_41 : decode cX5_canBe 41 = .ok (.iaload, 1) := by decide +kernel
theorem dX5_canBe_42 : decode cX5_canBe 42 = .ok (.if_icmp .gt 17, 3) := by decide +kernel
theorem dX5_canBe_45 : decode cX5_canBe 45 = .ok (.aload_n 0, 1) := by decide +kernel
theorem dX5_canBe_46 : decode cX5_canBe 46 = .ok (.getfield 18, 3) := by decide +kernel
theorem dX5_canBe_49 : decode cX5_canBe 49 = .ok (.iload 5, 2) := by decide +kernel
theorem dX5_canBe_51 : decode cX5_canBe 51 = .ok (.iaload, 1) := by decide +kernel
theorem dX5_canBe_52 : decode cX5_canBe 52 = .ok (.iload_n 2, 1) := by decide +kernel
theorem dX5_canBe_53 : decode cX5_canBe 53 = .ok (.iconst (-1), 1) := by decide +kernel
theorem dX5_canBe_54 : decode cX5_canBe 54 = .ok (.ixor, 1) := by decide +kernel
theorem dX5_canBe_55 : decode cX5_canBe 55 = .ok (.iand, 1) := by decide +kernel
theorem dX5_canBe_56 : decode cX5_canBe 56 = .ok (.ifCond .eq 5, 3) := by decide +kernel
theorem dX5_canBe_59 : decode cX5_canBe 59 = .ok (.iconst 0, 1) := by decide +kernel
theorem dX5_canBe_60 : decode cX5_canBe 60 = .ok (.ireturn, 1) := by decide +kernel
theorem dX5_canBe_61 : decode cX5_canBe 61 = .ok (.iload_n 2, 1) := by decide +kernel
theorem dX5_canBe_62 : decode cX5_canBe 62 = .ok (.iconst 1, 1) := by decide +kernel
theorem dX5_canBe_63 : decode cX5_canBe 63 = .ok (.iload 5, 2) := by decide +kernel
theorem dX5_canBe_65 : decode cX5_canBe 65 = .ok (.ishl, 1) := by decide +kernel
theorem dX5_canBe_66 : decode cX5_canBe 66 = .ok (.ior, 1) := by decide +kernel
theorem dX5_canBe_67 : decode cX5_canBe 67 = .ok (.istore_n 2, 1) := by decide +kernel
theorem dX5_canBe_68 : decode cX5_canBe 68 = .ok (.iinc 4 1, 3) := by decide +kernel
theorem dX5_canBe_71 : decode cX5_canBe 71 = .ok (.goto (-64), 3) := by decide +kernel
theorem dX5_canBe_74 : decode cX5_canBe 74 = .ok (.iconst 1, 1) := by decide +kernel
theorem dX5_canBe_75 : decode cX5_canBe 75 = .ok (.ireturn, 1) := by decide +kernel
theorem dX5_weightOfBoth_0 : decode cX5_weightOfBoth 0 = .ok (.aload_n 0, 1) := by decide +kernel
theorem dX5_weightOfBoth_1 : decode cX5_weightOfBoth 1 = .ok (.aload_n 0, 1) := by decide +kernel
theorem dX5_weightOfBoth_2 : decode cX5_weightOfBoth 2 = .ok (.getfield 21, 3) := by decide +kernel
theorem dX5_weightOfBoth_5 : decode cX5_weightOfBoth 5 = .ok (.iload_n 1, 1) := by decide +kernel
theorem dX5_weightOfBoth_6 : decode cX5_weightOfBoth 6 = .ok (.iaload, 1) := by decide +kernel
theorem dX5_weightOfBoth_7 : decode cX5_weightOfBoth 7 = .ok (.aload_n 0, 1) := by decide +kernel
theorem dX5_weightOfBoth_8 : decode cX5_weightOfBoth 8 = .ok (.getfield 21, 3) := by decide +kernel
theorem dX5_weightOfBoth_11 : decode cX5_weightOfBoth 11 = .ok (.iload_n 2, 1) := by decide +kernel
theorem dX5_weightOfBoth_12 : decode cX5_weightOfBoth 12 = .ok (.iaload, 1) := by decide +kernel
theorem dX5_weightOfBoth_13 : decode cX5_weightOfBoth 13 = .ok (.iand, 1) := by decide +kernel
theorem dX5_weightOfBoth_14 : decode cX5_weightOfBoth 14 = .ok (.invokevirtual 40, 3) := by decide +kernel
theorem dX5_weightOfBoth_17 : decode cX5_weightOfBoth 17 = .ok (.ireturn, 1) := by decide +kernel
theorem dX5_weightOfEither_0 : decode cX5_weightOfEither 0 = .ok (.aload_n 0, 1) := by decide +kernel
theorem dX5_weightOfEither_1 : decode cX5_weightOfEither 1 = .ok (.aload_n 0, 1) := by decide +kernel
theorem dX5_weightOfEither_2 : decode cX5_weightOfEither 2 = .ok (.getfield 21, 3) := by decide +kernel
theorem dX5_weightOfEither_5 : decode cX5_weightOfEither 5 = .ok (.iload_n 1, 1) := by decide +kernel
theorem dX5_weightOfEither_6 : decode cX5_weightOfEither 6 = .ok (.iaload, 1) := by decide +kernel
theorem dX5_weightOfEither_7 : decode cX5_weightOfEither 7 = .ok (.aload_n 0, 1) := by decide +kernel
theorem dX5_weightOfEither_8 : decode cX5_weightOfEither 8 = .ok (.getfield 21, 3) := by decide +kernel
theorem dX5_weightOfEither_11 : decode cX5_weightOfEither 11 = .ok (.iload_n 2, 1) := by decide +kernel
theorem dX5_weightOfEither_12 : decode cX5_weightOfEither 12 = .ok (.iaload, 1) := by decide +kernel
theorem dX5_weightOfEither_13 : decode cX5_weightOfEither 13 = .ok (.ior, 1) := by decide +kernel
theorem dX5_weightOfEither_14 : decode cX5_weightOfEither 14 = .ok (.invokevirtual 40, 3) := by decide +kernel
theorem dX5_weightOfEither_17 : decode cX5_weightOfEither 17 = .ok (.ireturn, 1) := by decide +kernel
theorem dX5_mostAlike_0 : decode cX5_mostAlike 0 = .ok (.iconst (-1), 1) := by decide +kernel
theorem dX5_mostAlike_1 : decode cX5_mostAlike 1 = .ok (.istore_n 2, 1) := by decide +kernel
theorem dX5_mostAlike_2 : decode cX5_mostAlike 2 = .ok (.iconst 0, 1) := by decide +kernel
theorem dX5_mostAlike_3 : decode cX5_mostAlike 3 = .ok (.istore_n 3, 1) := by decide +kernel
theorem dX5_mostAlike_4 : decode cX5_mostAlike 4 = .ok (.iconst 1, 1) := by decide +kernel
theorem dX5_mostAlike_5 : decode cX5_mostAlike 5 = .ok (.istore 4, 2) := by decide +kernel
theorem dX5_mostAlike_7 : decode cX5_mostAlike 7 = .ok (.iconst 0, 1) := by decide +kernel
theorem dX5_mostAlike_8 : decode cX5_mostAlike 8 = .ok (.istore 5, 2) := by decide +kernel
theorem dX5_mostAlike_10 : decode cX5_mostAlike 10 = .ok (.iload 5, 2) := by decide +kernel
theorem dX5_mostAlike_12 : decode cX5_mostAlike 12 = .ok (.aload_n 0, 1) := by decide +kernel
theorem dX5_mostAlike_13 : decode cX5_mostAlike 13 = .ok (.getfield 24, 3) := by decide +kernel
theorem dX5_mostAlike_16 : decode cX5_mostAlike 16 = .ok (.if_icmp .ge 68, 3) := by decide +kernel
theorem dX5_mostAlike_19 : decode cX5_mostAlike 19 = .ok (.aload_n 0, 1) := by decide +kernel
theorem dX5_mostAlike_20 : decode cX5_mostAlike 20 = .ok (.iload_n 1, 1) := by decide +kernel
theorem dX5_mostAlike_21 : decode cX5_mostAlike 21 = .ok (.iload 5, 2) := by decide +kernel
theorem dX5_mostAlike_23 : decode cX5_mostAlike 23 = .ok (.invokevirtual 55, 3) := by decide +kernel
theorem dX5_mostAlike_26 : decode cX5_mostAlike 26 = .ok (.istore 6, 2) := by decide +kernel
theorem dX5_mostAlike_28 : decode cX5_mostAlike 28 = .ok (.iload 5, 2) := by decide +kernel
theorem dX5_mostAlike_30 : decode cX5_mostAlike 30 = .ok (.iload_n 1, 1) := by decide +kernel
theorem dX5_mostAlike_31 : decode cX5_mostAlike 31 = .ok (.if_icmp .eq 47, 3) := by decide +kernel
theorem dX5_mostAlike_34 : decode cX5_mostAlike 34 = .ok (.iload 6, 2) := by decide +kernel
theorem dX5_mostAlike_36 : decode cX5_mostAlike 36 = .ok (.ifCond .ne 6, 3) := by decide +kernel
theorem dX5_mostAlike_39 : decode cX5_mostAlike 39 = .ok (.goto 39, 3) := by decide +kernel
theorem dX5_mostAlike_42 : decode cX5_mostAlike 42 = .ok (.aload_n 0, 1) := by decide +kernel
theorem dX5_mostAlike_43 : decode cX5_mostAlike 43 = .ok (.iload_n 1, 1) := by decide +kernel
theorem dX5_mostAlike_44 : decode cX5_mostAlike 44 = .ok (.iload 5, 2) := by decide +kernel
theorem dX5_mostAlike_46 : decode cX5_mostAlike 46 = .ok (.invokevirtual 58, 3) := by decide +kernel
theorem dX5_mostAlike_49 : decode cX5_mostAlike 49 = .ok (.istore 7, 2) := by decide +kernel
theorem dX5_mostAlike_51 : decode cX5_mostAlike 51 = .ok (.iload_n 2, 1) := by decide +kernel
theorem dX5_mostAlike_52 : decode cX5_mostAlike 52 = .ok (.iconst (-1), 1) := by decide +kernel
theorem dX5_mostAlike_53 : decode cX5_mostAlike 53 = .ok (.if_icmp .eq 15, 3) := by decide +kernel
theorem dX5_mostAlike_56 : decode cX5_mostAlike 56 = .ok (.iload 7, 2) := by decide +kernel
theorem dX5_mostAlike_58 : decode cX5_mostAlike 58 = .ok (.iload 4, 2) := by decide +kernel
theorem dX5_mostAlike_60 : decode cX5_mostAlike 60 = .ok (.imul, 1) := by decide +kernel
theorem dX5_mostAlike_61 : decode cX5_mostAlike 61 = .ok (.iload_n 3, 1) := by decide +kernel
theorem dX5_mostAlike_62 : decode cX5_mostAlike 62 = .ok (.iload 6, 2) := by decide +kernel
theorem dX5_mostAlike_64 : decode cX5_mostAlike 64 = .ok (.imul, 1) := by decide +kernel
theorem dX5_mostAlike_65 : decode cX5_mostAlike 65 = .ok (.if_icmp .le 13, 3) := by decide +kernel
theorem dX5_mostAlike_68 : decode cX5_mostAlike 68 = .ok (.iload 5, 2) := by decide +kernel
theorem dX5_mostAlike_70 : decode cX5_mostAlike 70 = .ok (.istore_n 2, 1) := by decide +kernel
theorem dX5_mostAlike_71 : decode cX5_mostAlike 71 = .ok (.iload 7, 2) := by decide +kernel
theorem dX5_mostAlike_73 : decode cX5_mostAlike 73 = .ok (.istore_n 3, 1) := by decide +kernel
theorem dX5_mostAlike_74 : decode cX5_mostAlike 74 = .ok (.iload 6, 2) := by decide +kernel
theorem dX5_mostAlike_76 : decode cX5_mostAlike 76 = .ok (.istore 4, 2) := by decide +kernel
theorem dX5_mostAlike_78 : decode cX5_mostAlike 78 = .ok (.iinc 5 1, 3) := by decide +kernel
theorem dX5_mostAlike_81 : decode cX5_mostAlike 81 = .ok (.goto (-71), 3) := by decide +kernel
theorem dX5_mostAlike_84 : decode cX5_mostAlike 84 = .ok (.iload_n 2, 1) := by decide +kernel
theorem dX5_mostAlike_85 : decode cX5_mostAlike 85 = .ok (.ireturn, 1) := by decide +kernel
theorem dX6_init_0 : decode cX6_init 0 = .ok (.aload_n 0, 1) := by decide +kernel
theorem dX6_init_1 : decode cX6_init 1 = .ok (.invokespecial 3, 3) := by decide +kernel
theorem dX6_init_4 : decode cX6_init 4 = .ok (.aload_n 0, 1) := by decide +kernel
theorem dX6_init_5 : decode cX6_init 5 = .ok (.new 9, 3) := by decide +kernel
theorem dX6_init_8 : decode cX6_init 8 = .ok (.dup, 1) := by decide +kernel
theorem dX6_init_9 : decode cX6_init 9 = .ok (.invokespecial 11, 3) := by decide +kernel
theorem dX6_init_12 : decode cX6_init 12 = .ok (.putfield 12, 3) := by decide +kernel
theorem dX6_init_15 : decode cX6_init 15 = .ok (.aload_n 0, 1) := by decide +kernel
theorem dX6_init_16 : decode cX6_init 16 = .ok (.new 16, 3) := by decide +kernel
theorem dX6_init_19 : decode cX6_init 19 = .ok (.dup, 1) := by decide +kernel
theorem dX6_init_20 : decode cX6_init 20 = .ok (.invokespecial 18, 3) := by decide +kernel
theorem dX6_init_23 : decode cX6_init 23 = .ok (.putfield 19, 3) := by decide +kernel
theorem dX6_init_26 : decode cX6_init 26 = .ok (.aload_n 0, 1) := by decide +kernel
theorem dX6_init_27 : decode cX6_init 27 = .ok (.new 23, 3) := by decide +kernel
theorem dX6_init_30 : decode cX6_init 30 = .ok (.dup, 1) := by decide +kernel
theorem dX6_init_31 : decode cX6_init 31 = .ok (.invokespecial 25, 3) := by decide +kernel
theorem dX6_init_34 : decode cX6_init 34 = .ok (.putfield 26, 3) := by decide +kernel
theorem dX6_init_37 : decode cX6_init 37 = .ok (.aload_n 0, 1) := by decide +kernel
theorem dX6_init_38 : decode cX6_init 38 = .ok (.new 30, 3) := by decide +kernel
theorem dX6_init_41 : decode cX6_init 41 = .ok (.dup, 1) := by decide +kernel
theorem dX6_init_42 : decode cX6_init 42 = .ok (.aload_n 0, 1) := by decide +kernel
theorem dX6_init_43 : decode cX6_init 43 = .ok (.getfield 12, 3) := by decide +kernel
theorem dX6_init_46 : decode cX6_init 46 = .ok (.invokespecial 32, 3) := by decide +kernel
theorem dX6_init_49 : decode cX6_init 49 = .ok (.putfield 35, 3) := by decide +kernel
theorem dX6_init_52 : decode cX6_init 52 = .ok (.aload_n 0, 1) := by decide +kernel
theorem dX6_init_53 : decode cX6_init 53 = .ok (.new 39, 3) := by decide +kernel
theorem dX6_init_56 : decode cX6_init 56 = .ok (.dup, 1) := by decide +kernel
theorem dX6_init_57 : decode cX6_init 57 = .ok (.aload_n 0, 1) := by decide +kernel
theorem dX6_init_58 : decode cX6_init 58 = .ok (.getfield 12, 3) := by decide +kernel
theorem dX6_init_61 : decode cX6_init 61 = .ok (.aload_n 0, 1) := by decide +kernel
theorem dX6_init_62 : decode cX6_init 62 = .ok (.getfield 35, 3) := by decide +kernel
theorem dX6_init_65 : decode cX6_init 65 = .ok (.getfield 41, 3) := by decide +kernel
theorem dX6_init_68 : decode cX6_init 68 = .ok (.invokespecial 45, 3) := by decide +kernel
theorem dX6_init_71 : decode cX6_init 71 = .ok (.putfield 48, 3) := by decide +kernel
theorem dX6_init_74 : decode cX6_init 74 = .ok (.aload_n 0, 1) := by decide +kernel
theorem dX6_init_75 : decode cX6_init 75 = .ok (.iconst 4, 1) := by decide +kernel
theorem dX6_init_76 : decode cX6_init 76 = .ok (.anewarray 52, 3) := by decide +kernel
theorem dX6_init_79 : decode cX6_init 79 = .ok (.putfield 54, 3) := by decide +kernel
theorem dX6_init_82 : decode cX6_init 82 = .ok (.aload_n 0, 1) := by decide +kernel
theorem dX6_init_83 : decode cX6_init 83 = .ok (.sipush 999, 3) := by decide +kernel
theorem dX6_init_86 : decode cX6_init 86 = .ok (.putfield 58, 3) := by decide +kernel
theorem dX6_init_89 : decode cX6_init 89 = .ok (.aload_n 0, 1) := by decide +kernel
theorem dX6_init_90 : decode cX6_init 90 = .ok (.iconst 0, 1) := by decide +kernel
theorem dX6_init_91 : decode cX6_init 91 = .ok (.putfield 62, 3) := by decide +kernel
theorem dX6_init_94 : decode cX6_init 94 = .ok (.iconst 0, 1) := by decide +kernel
theorem dX6_init_95 : decode cX6_init 95 = .ok (.istore_n 1, 1) := by decide +kernel
theorem dX6_init_96 : decode cX6_init 96 = .ok (.iload_n 1, 1) := by decide +kernel
theorem dX6_init_97 : decode cX6_init 97 = .ok (.iconst 4, 1) := by decide +kernel
theorem dX6_init_98 : decode cX6_init 98 = .ok (.if_icmp .ge 22, 3) := by decide +kernel
theorem dX6_init_101 : decode cX6_init 101 = .ok (.aload_n 0, 1) := by decide +kernel
theorem dX6_init_102 : decode cX6_init 102 = .ok (.getfield 54, 3) := by decide +kernel
theorem dX6_init_105 : decode cX6_init 105 = .ok (.iload_n 1, 1) := by decide +kernel
theorem dX6_init_106 : decode cX6_init 106 = .ok (.new 52, 3) := by decide +kernel
theorem dX6_init_109 : decode cX6_init 109 = .ok (.dup, 1) := by decide +kernel
theorem dX6_init_110 : decode cX6_init 110 = .ok (.invokespecial 65, 3) := by decide +kernel
theorem dX6_init_113 : decode cX6_init 113 = .ok (.aastore, 1) := by decide +kernel
theorem dX6_init_114 : decode cX6_init 114 = .ok (.iinc 1 1, 3) := by decide +kernel
theorem dX6_init_117 : decode cX6_init 117 = .ok (.goto (-21), 3) := by decide +kernel
theorem dX6_init_120 : decode cX6_init 120 = .ok (.return_, 1) := by decide +kernel
theorem dX6_grave_0 : decode cX6_grave 0 = .ok (.iload_n 1, 1) := by decide +kernel
theorem dX6_grave_1 : decode cX6_grave 1 = .ok (.iconst 0, 1) := by decide +kernel
theorem dX6_grave_2 : decode cX6_grave 2 = .ok (.bipush 99, 2) := by decide +kernel
theorem dX6_grave_4 : decode cX6_grave 4 = .ok (.invokestatic 66, 3) := by decide +kernel
theorem dX6_grave_7 : decode cX6_grave 7 = .ok (.ifCond .eq 13, 3) := by decide +kernel
theorem dX6_grave_10 : decode cX6_grave 10 = .ok (.iload_n 2, 1) := by decide +kernel
theorem dX6_grave_11 : decode cX6_grave 11 = .ok (.iload_n 1, 1) := by decide +kernel
theorem dX6_grave_12 : decode cX6_grave 12 = .ok (.bipush 99, 2) := by decide +kernel
theorem dX6_grave_14 : decode cX6_grave 14 = .ok (.invokestatic 66, 3) := by decide +kernel
theorem dX6_grave_17 : decode cX6_grave 17 = .ok (.ifCond .ne 6, 3) := by decide +kernel
theorem dX6_grave_20 : decode cX6_grave 20 = .ok (.bipush (-2), 2) := by decide +kernel
theorem dX6_grave_22 : decode cX6_grave 22 = .ok (.ireturn, 1) := by decide +kernel
theorem dX6_grave_23 : decode cX6_grave 23 = .ok (.aload_n 0, 1) := by decide +kernel
theorem dX6_grave_24 : decode cX6_grave 24 = .ok (.getfield 12, 3) := by decide +kernel
theorem dX6_grave_27 : decode cX6_grave 27 = .ok (.getfield 70, 3) := by decide +kernel
theorem dX6_grave_30 : decode cX6_grave 30 = .ok (.bipush 8, 2) := by decide +kernel
theorem dX6_grave_32 : decode cX6_grave 32 = .ok (.if_icmp .lt 6, 3) := by decide +kernel
theorem dX6_grave_35 : decode cX6_grave 35 = .ok (.bipush (-4), 2) := by decide +kernel
theorem dX6_grave_37 : decode cX6_grave 37 = .ok (.ireturn, 1) := by decide +kernel
theorem dX6_grave_38 : decode cX6_grave 38 = .ok (.aload_n 0, 1) := by decide +kernel
theorem dX6_grave_39 : decode cX6_grave 39 = .ok (.getfield 35, 3) := by decide +kernel
theorem dX6_grave_42 : decode cX6_grave 42 = .ok (.iconst 1, 1) := by decide +kernel
theorem dX6_grave_43 : decode cX6_grave 43 = .ok (.putfield 73, 3) := by decide +kernel
theorem dX6_grave_46 : decode cX6_grave 46 = .ok (.aload_n 0, 1) := by decide +kernel
theorem dX6_grave_47 : decode cX6_grave 47 = .ok (.getfield 12, 3) := by decide +kernel
theorem dX6_grave_50 : decode cX6_grave 50 = .ok (.iload_n 1, 1) := by decide +kernel
theorem dX6_grave_51 : decode cX6_grave 51 = .ok (.iload_n 2, 1) := by decide +kernel
theorem dX6_grave_52 : decode cX6_grave 52 = .ok (.invokevirtual 77, 3) := by decide +kernel
theorem dX6_grave_55 : decode cX6_grave 55 = .ok (.ireturn, 1) := by decide +kernel
theorem dX6_robbed_0 : decode cX6_robbed 0 = .ok (.aload_n 0, 1) := by decide +kernel
theorem dX6_robbed_1 : decode cX6_robbed 1 = .ok (.iload_n 1, 1) := by decide +kernel
theorem dX6_robbed_2 : decode cX6_robbed 2 = .ok (.invokevirtual 81, 3) := by decide +kernel
theorem dX6_robbed_5 : decode cX6_robbed 5 = .ok (.ifCond .eq 12, 3) := by decide +kernel
theorem dX6_robbed_8 : decode cX6_robbed 8 = .ok (.iload_n 2, 1) := by decide +kernel
theorem dX6_robbed_9 : decode cX6_robbed 9 = .ok (.iconst 0, 1) := by decide +kernel
theorem dX6_robbed_10 : decode cX6_robbed 10 = .ok (.iconst 1, 1) := by decide +kernel
theorem dX6_robbed_11 : decode cX6_robbed 11 = .ok (.invokestatic 66, 3) := by decide +kernel
theorem dX6_robbed_14 : decode cX6_robbed 14 = .ok (.ifCond .ne 6, 3) := by decide +kernel
theorem dX6_robbed_17 : decode cX6_robbed 17 = .ok (.bipush (-2), 2) := by decide +kernel
theorem dX6_robbed_19 : decode cX6_robbed 19 = .ok (.ireturn, 1) := by decide +kernel
theorem dX6_robbed_20 : decode cX6_robbed 20 = .ok (.aload_n 0, 1) := by decide +kernel
theorem dX6_robbed_21 : decode cX6_robbed 21 = .ok (.getfield 12, 3) := by decide +kernel
theorem dX6_robbed_24 : decode cX6_robbed 24 = .ok (.getfield 85, 3) := by decide +kernel
theorem dX6_robbed_27 : decode cX6_robbed 27 = .ok (.iload_n 1, 1) := by decide +kernel
theorem dX6_robbed_28 : decode cX6_robbed 28 = .ok (.ishr, 1) := by decide +kernel
theorem dX6_robbed_29 : decode cX6_robbed 29 = .ok (.iconst 1, 1) := by decide +kernel
theorem dX6_robbed_30 : decode cX6_robbed 30 = .ok (.iand, 1) := by decide +kernel
theorem dX6_robbed_31 : decode cX6_robbed 31 = .ok (.istore_n 3, 1) := by decide +kernel
theorem dX6_robbed_32 : decode cX6_robbed 32 = .ok (.aload_n 0, 1) := by decide +kernel
theorem dX6_robbed_33 : decode cX6_robbed 33 = .ok (.getfield 12, 3) := by decide +kernel
theorem dX6_robbed_36 : decode cX6_robbed 36 = .ok (.aload_n 0, 1) := by decide +kernel
theorem dX6_robbed_37 : decode cX6_robbed 37 = .ok (.getfield 12, 3) := by decide +kernel
theorem dX6_robbed_40 : decode cX6_robbed 40 = .ok (.getfield 85, 3) := by decide +kernel
theorem dX6_robbed_43 : decode cX6_robbed 43 = .ok (.iconst 1, 1) := by decide +kernel
theorem dX6_robbed_44 : decode cX6_robbed 44 = .ok (.iload_n 1, 1) := by decide +kernel
theorem dX6_robbed_45 : decode cX6_robbed 45 = .ok (.ishl, 1) := by decide +kernel
theorem dX6_robbed_46 : decode cX6_robbed 46 = .ok (.iconst (-1), 1) := by decide +kernel
theorem dX6_robbed_47 : decode cX6_robbed 47 = .ok (.ixor, 1) := by decide +kernel
theorem dX6_robbed_48 : decode cX6_robbed 48 = .ok (.iand, 1) := by decide +kernel
theorem dX6_robbed_49 : decode cX6_robbed 49 = .ok (.iload_n 2, 1) := by decide +kernel
theorem dX6_robbed_50 : decode cX6_robbed 50 = .ok (.iload_n 1, 1) := by decide +kernel
theorem dX6_robbed_51 : decode cX6_robbed 51 = .ok (.ishl, 1) := by decide +kernel
theorem dX6_robbed_52 : decode cX6_robbed 52 = .ok (.ior, 1) := by decide +kernel
theorem dX6_robbed_53 : decode cX6_robbed 53 = .ok (.putfield 85, 3) := by decide +kernel
theorem dX6_robbed_56 : decode cX6_robbed 56 = .ok (.aload_n 0, 1) := by decide +kernel
theorem dX6_robbed_57 : decode cX6_robbed 57 = .ok (.getfield 35, 3) := by decide +kernel
theorem dX6_robbed_60 : decode cX6_robbed 60 = .ok (.iconst 1, 1) := by decide +kernel
theorem dX6_robbed_61 : decode cX6_robbed 61 = .ok (.putfield 73, 3) := by decide +kernel
theorem dX6_robbed_64 : decode cX6_robbed 64 = .ok (.iload_n 3, 1) := by decide +kernel
theorem dX6_robbed_65 : decode cX6_robbed 65 = .ok (.ireturn, 1) := by decide +kernel
theorem dX6_weight_0 : decode cX6_weight 0 = .ok (.iload_n 1, 1) := by decide +kernel
theorem dX6_weight_1 : decode cX6_weight 1 = .ok (.invokestatic 88, 3) := by decide +kernel
theorem dX6_weight_4 : decode cX6_weight 4 = .ok (.ifCond .eq 12, 3) := by decide +kernel
theorem dX6_weight_7 : decode cX6_weight 7 = .ok (.iload_n 2, 1) := by decide +kernel
theorem dX6_weight_8 : decode cX6_weight 8 = .ok (.iconst 0, 1) := by decide +kernel
theorem dX6_weight_9 : decode cX6_weight 9 = .ok (.iconst 3, 1) := by decide +kernel
theorem dX6_weight_10 : decode cX6_weight 10 = .ok (.invokestatic 66, 3) := by decide +kernel
theorem dX6_weight_13 : decode cX6_weight 13 = .ok (.ifCond .ne 6, 3) := by decide +kernel
theorem dX6_weight_16 : decode cX6_weight 16 = .ok (.bipush (-2), 2) := by decide +kernel
theorem dX6_weight_18 : decode cX6_weight 18 = .ok (.ireturn, 1) := by decide +kernel
theorem dX6_weight_19 : decode cX6_weight 19 = .ok (.aload_n 0, 1) := by decide +kernel
theorem dX6_weight_20 : decode cX6_weight 20 = .ok (.getfield 35, 3) := by decide +kernel
theorem dX6_weight_23 : decode cX6_weight 23 = .ok (.iconst 1, 1) := by decide +kernel
theorem dX6_weight_24 : decode cX6_weight 24 = .ok (.putfield 73, 3) := by decide +kernel
theorem dX6_weight_27 : decode cX6_weight 27 = .ok (.aload_n 0, 1) := by decide +kernel
theorem dX6_weight_28 : decode cX6_weight 28 = .ok (.getfield 12, 3) := by decide +kernel
theorem dX6_weight_31 : decode cX6_weight 31 = .ok (.iload_n 1, 1) := by decide +kernel
theorem dX6_weight_32 : decode cX6_weight 32 = .ok (.iload_n 2, 1) := by decide +kernel
theorem dX6_weight_33 : decode cX6_weight 33 = .ok (.invokevirtual 91, 3) := by decide +kernel
theorem dX6_weight_36 : decode cX6_weight 36 = .ok (.ireturn, 1) := by decide +kernel
theorem dX6_over_0 : decode cX6_over 0 = .ok (.aload_n 0, 1) := by decide +kernel
theorem dX6_over_1 : decode cX6_over 1 = .ok (.iload_n 1, 1) := by decide +kernel
theorem dX6_over_2 : decode cX6_over 2 = .ok (.iload_n 2, 1) := by decide +kernel
theorem dX6_over_3 : decode cX6_over 3 = .ok (.invokevirtual 94, 3) := by decide +kernel
theorem dX6_over_6 : decode cX6_over 6 = .ok (.ifCond .ne 6, 3) := by decide +kernel
theorem dX6_over_9 : decode cX6_over 9 = .ok (.bipush (-2), 2) := by decide +kernel
theorem dX6_over_11 : decode cX6_over 11 = .ok (.ireturn, 1) := by decide +kernel
theorem dX6_over_12 : decode cX6_over 12 = .ok (.aload_n 0, 1) := by decide +kernel
theorem dX6_over_13 : decode cX6_over 13 = .ok (.getfield 12, 3) := by decide +kernel
theorem dX6_over_16 : decode cX6_over 16 = .ok (.getfield 98, 3) := by decide +kernel
theorem dX6_over_19 : decode cX6_over 19 = .ok (.bipush 16, 2) := by decide +kernel
theorem dX6_over_21 : decode cX6_over 21 = .ok (.if_icmp .lt 6, 3) := by decide +kernel
theorem dX6_over_24 : decode cX6_over 24 = .ok (.bipush (-4), 2) := by decide +kernel
theorem dX6_over_26 : decode cX6_over 26 = .ok (.ireturn, 1) := by decide +kernel
theorem dX6_over_27 : decode cX6_over 27 = .ok (.aload_n 0, 1) := by decide +kernel
theorem dX6_over_28 : decode cX6_over 28 = .ok (.getfield 12, 3) := by decide +kernel
theorem dX6_over_31 : decode cX6_over 31 = .ok (.getfield 101, 3) := by decide +kernel
theorem dX6_over_34 : decode cX6_over 34 = .ok (.iload_n 1, 1) := by decide +kernel
theorem dX6_over_35 : decode cX6_over 35 = .ok (.dup2, 1) := by decide +kernel
theorem dX6_over_36 : decode cX6_over 36 = .ok (.iaload, 1) := by decide +kernel
theorem dX6_over_37 : decode cX6_over 37 = .ok (.iconst 1, 1) := by decide +kernel
theorem dX6_over_38 : decode cX6_over 38 = .ok (.iload_n 2, 1) := by decide +kernel
theorem dX6_over_39 : decode cX6_over 39 = .ok (.ishl, 1) := by decide +kernel
theorem dX6_over_40 : decode cX6_over 40 = .ok (.ior, 1) := by decide +kernel
theorem dX6_over_41 : decode cX6_over 41 = .ok (.iastore, 1) := by decide +kernel
theorem dX6_over_42 : decode cX6_over 42 = .ok (.aload_n 0, 1) := by decide +kernel
theorem dX6_over_43 : decode cX6_over 43 = .ok (.getfield 12, 3) := by decide +kernel
theorem dX6_over_46 : decode cX6_over 46 = .ok (.dup, 1) := by decide +kernel
theorem dX6_over_47 : decode cX6_over 47 = .ok (.getfield 98, 3) := by decide +kernel
theorem dX6_over_50 : decode cX6_over 50 = .ok (.iconst 1, 1) := by decide +kernel
theorem dX6_over_51 : decode cX6_over 51 = .ok (.iadd, 1) := by decide +kernel
theorem dX6_over_52 : decode cX6_over 52 = .ok (.putfield 98, 3) := by decide +kernel
theorem dX6_over_55 : decode cX6_over 55 = .ok (.aload_n 0, 1) := by decide +kernel
theorem dX6_over_56 : decode cX6_over 56 = .ok (.getfield 35, 3) := by decide +kernel
theorem dX6_over_59 : decode cX6_over 59 = .ok (.iconst 1, 1) := by decide +kernel
theorem dX6_over_60 : decode cX6_over 60 = .ok (.putfield 73, 3) := by decide +kernel
theorem dX6_over_63 : decode cX6_over 63 = .ok (.aload_n 0, 1) := by decide +kernel
theorem dX6_over_64 : decode cX6_over 64 = .ok (.getfield 12, 3) := by decide +kernel
theorem dX6_over_67 : decode cX6_over 67 = .ok (.getfield 98, 3) := by decide +kernel
theorem dX6_over_70 : decode cX6_over 70 = .ok (.ireturn, 1) := by decide +kernel
theorem dX6_type_0 : decode cX6_type 0 = .ok (.iload_n 1, 1) := by decide +kernel
theorem dX6_type_1 : decode cX6_type 1 = .ok (.iconst 0, 1) := by decide +kernel
theorem dX6_type_2 : decode cX6_type 2 = .ok (.sipush 255, 3) := by decide +kernel
theorem dX6_type_5 : decode cX6_type 5 = .ok (.invokestatic 66, 3) := by decide +kernel
theorem dX6_type_8 : decode cX6_type 8 = .ok (.ifCond .ne 6, 3) := by decide +kernel
theorem dX6_type_11 : decode cX6_type 11 = .ok (.bipush (-2), 2) := by decide +kernel
theorem dX6_type_13 : decode cX6_type 13 = .ok (.ireturn, 1) := by decide +kernel
theorem dX6_type_14 : decode cX6_type 14 = .ok (.aload_n 0, 1) := by decide +kernel
theorem dX6_type_15 : decode cX6_type 15 = .ok (.getfield 19, 3) := by decide +kernel
theorem dX6_type_18 : decode cX6_type 18 = .ok (.getfield 104, 3) := by decide +kernel
theorem dX6_type_21 : decode cX6_type 21 = .ok (.bipush 40, 2) := by decide +kernel
theorem dX6_type_23 : decode cX6_type 23 = .ok (.if_icmp .lt 6, 3) := by decide +kernel
theorem dX6_type_26 : decode cX6_type 26 = .ok (.bipush (-4), 2) := by decide +kernel
theorem dX6_type_28 : decode cX6_type 28 = .ok (.ireturn, 1) := by decide +kernel
theorem dX6_type_29 : decode cX6_type 29 = .ok (.aload_n 0, 1) := by decide +kernel
theorem dX6_type_30 : decode cX6_type 30 = .ok (.getfield 19, 3) := by decide +kernel
theorem dX6_type_33 : decode cX6_type 33 = .ok (.getfield 107, 3) := by decide +kernel
theorem dX6_type_36 : decode cX6_type 36 = .ok (.aload_n 0, 1) := by decide +kernel
theorem dX6_type_37 : decode cX6_type 37 = .ok (.getfield 19, 3) := by decide +kernel
theorem dX6_type_40 : decode cX6_type 40 = .ok (.getfield 104, 3) := by decide +kernel
theorem dX6_type_43 : decode cX6_type 43 = .ok (.iload_n 1, 1) := by decide +kernel
theorem dX6_type_44 : decode cX6_type 44 = .ok (.iastore, 1) := by decide +kernel
theorem dX6_type_45 : decode cX6_type 45 = .ok (.aload_n 0, 1) := by decide +kernel
theorem dX6_type_46 : decode cX6_type 46 = .ok (.getfield 19, 3) := by decide +kernel
theorem dX6_type_49 : decode cX6_type 49 = .ok (.dup, 1) := by decide +kernel
theorem dX6_type_50 : decode cX6_type 50 = .ok (.getfield 104, 3) := by decide +kernel
theorem dX6_type_53 : decode cX6_type 53 = .ok (.iconst 1, 1) := by decide +kernel
theorem dX6_type_54 : decode cX6_type 54 = .ok (.iadd, 1) := by decide +kernel
theorem dX6_type_55 : decode cX6_type 55 = .ok (.putfield 104, 3) := by decide +kernel
theorem dX6_type_58 : decode cX6_type 58 = .ok (.aload_n 0, 1) := by decide +kernel
theorem dX6_type_59 : decode cX6_type 59 = .ok (.getfield 19, 3) := by decide +kernel
theorem dX6_type_62 : decode cX6_type 62 = .ok (.getfield 104, 3) := by decide +kernel
theorem dX6_type_65 : decode cX6_type 65 = .ok (.ireturn, 1) := by decide +kernel
theorem dX6_wipe_0 : decode cX6_wipe 0 = .ok (.aload_n 0, 1) := by decide +kernel
theorem dX6_wipe_1 : decode cX6_wipe 1 = .ok (.getfield 19, 3) := by decide +kernel
theorem dX6_wipe_4 : decode cX6_wipe 4 = .ok (.getfield 104, 3) := by decide +kernel
theorem dX6_wipe_7 : decode cX6_wipe 7 = .ok (.istore_n 1, 1) := by decide +kernel
theorem dX6_wipe_8 : decode cX6_wipe 8 = .ok (.aload_n 0, 1) := by decide +kernel
theorem dX6_wipe_9 : decode cX6_wipe 9 = .ok (.getfield 19, 3) := by decide +kernel
theorem dX6_wipe_12 : decode cX6_wipe 12 = .ok (.iconst 0, 1) := by decide +kernel
theorem dX6_wipe_13 : decode cX6_wipe 13 = .ok (.putfield 104, 3) := by decide +kernel
theorem dX6_wipe_16 : decode cX6_wipe 16 = .ok (.iload_n 1, 1) := by decide +kernel
theorem dX6_wipe_17 : decode cX6_wipe 17 = .ok (.ireturn, 1) := by decide +kernel
theorem dX6_fault_0 : decode cX6_fault 0 = .ok (.aload_n 0, 1) := by decide +kernel
theorem dX6_fault_1 : decode cX6_fault 1 = .ok (.getfield 19, 3) := by decide +kernel
theorem dX6_fault_4 : decode cX6_fault 4 = .ok (.aload_n 0, 1) := by decide +kernel
theorem dX6_fault_5 : decode cX6_fault 5 = .ok (.getfield 12, 3) := by decide +kernel
theorem dX6_fault_8 : decode cX6_fault 8 = .ok (.getfield 70, 3) := by decide +kernel
theorem dX6_fault_11 : decode cX6_fault 11 = .ok (.invokevirtual 110, 3) := by decide +kernel
theorem dX6_fault_14 : decode cX6_fault 14 = .ok (.ireturn, 1) := by decide +kernel
theorem dX6_tell_0 : decode cX6_tell 0 = .ok (.aload_n 0, 1) := by decide +kernel
theorem dX6_tell_1 : decode cX6_tell 1 = .ok (.iload_n 1, 1) := by decide +kernel
theorem dX6_tell_2 : decode cX6_tell 2 = .ok (.invokevirtual 114, 3) := by decide +kernel
theorem dX6_tell_5 : decode cX6_tell 5 = .ok (.ifCond .ne 6, 3) := by decide +kernel
theorem dX6_tell_8 : decode cX6_tell 8 = .ok (.bipush (-2), 2) := by decide +kernel
theorem dX6_tell_10 : decode cX6_tell 10 = .ok (.ireturn, 1) := by decide +kernel
theorem dX6_tell_11 : decode cX6_tell 11 = .ok (.aload_n 0, 1) := by decide +kernel
theorem dX6_tell_12 : decode cX6_tell 12 = .ok (.getfield 19, 3) := by decide +kernel
theorem dX6_tell_15 : decode cX6_tell 15 = .ok (.aload_n 0, 1) := by decide +kernel
theorem dX6_tell_16 : decode cX6_tell 16 = .ok (.getfield 12, 3) := by decide +kernel
theorem dX6_tell_19 : decode cX6_tell 19 = .ok (.getfield 70, 3) := by decide +kernel
theorem dX6_tell_22 : decode cX6_tell 22 = .ok (.invokevirtual 110, 3) := by decide +kernel
theorem dX6_tell_25 : decode cX6_tell 25 = .ok (.iconst (-1), 1) := by decide +kernel
theorem dX6_tell_26 : decode cX6_tell 26 = .ok (.if_icmp .eq 6, 3) := by decide +kernel
theorem dX6_tell_29 : decode cX6_tell 29 = .ok (.bipush (-3), 2) := by decide +kernel
theorem dX6_tell_31 : decode cX6_tell 31 = .ok (.ireturn, 1) := by decide +kernel
theorem dX6_tell_32 : decode cX6_tell 32 = .ok (.aload_n 0, 1) := by decide +kernel
theorem dX6_tell_33 : decode cX6_tell 33 = .ok (.iload_n 1, 1) := by decide +kernel
theorem dX6_tell_34 : decode cX6_tell 34 = .ok (.invokevirtual 117, 3) := by decide +kernel
theorem dX6_tell_37 : decode cX6_tell 37 = .ok (.istore_n 2, 1) := by decide +kernel
theorem dX6_tell_38 : decode cX6_tell 38 = .ok (.aload_n 0, 1) := by decide +kernel
theorem dX6_tell_39 : decode cX6_tell 39 = .ok (.getfield 19, 3) := by decide +kernel
theorem dX6_tell_42 : decode cX6_tell 42 = .ok (.iconst 0, 1) := by decide +kernel
theorem dX6_tell_43 : decode cX6_tell 43 = .ok (.putfield 104, 3) := by decide +kernel
theorem dX6_tell_46 : decode cX6_tell 46 = .ok (.aload_n 0, 1) := by decide +kernel
theorem dX6_tell_47 : decode cX6_tell 47 = .ok (.invokevirtual 120, 3) := by decide +kernel
theorem dX6_tell_50 : decode cX6_tell 50 = .ok (.iload_n 2, 1) := by decide +kernel
theorem dX6_tell_51 : decode cX6_tell 51 = .ok (.ireturn, 1) := by decide +kernel
theorem dX6_read_0 : decode cX6_read 0 = .ok (.iload_n 1, 1) := by decide +kernel
theorem dX6_read_1 : decode cX6_read 1 = .ok (.invokestatic 123, 3) := by decide +kernel
theorem dX6_read_4 : decode cX6_read 4 = .ok (.ifCond .eq 19, 3) := by decide +kernel
theorem dX6_read_7 : decode cX6_read 7 = .ok (.aload_n 0, 1) := by decide +kernel
theorem dX6_read_8 : decode cX6_read 8 = .ok (.iload_n 2, 1) := by decide +kernel
theorem dX6_read_9 : decode cX6_read 9 = .ok (.invokevirtual 81, 3) := by decide +kernel
theorem dX6_read_12 : decode cX6_read 12 = .ok (.ifCond .eq 11, 3) := by decide +kernel
theorem dX6_read_15 : decode cX6_read 15 = .ok (.aload_n 0, 1) := by decide +kernel
theorem dX6_read_16 : decode cX6_read 16 = .ok (.iload_n 3, 1) := by decide +kernel
theorem dX6_read_17 : decode cX6_read 17 = .ok (.invokevirtual 114, 3) := by decide +kernel
theorem dX6_read_20 : decode cX6_read 20 = .ok (.ifCond .ne 6, 3) := by decide +kernel
theorem dX6_read_23 : decode cX6_read 23 = .ok (.bipush (-2), 2) := by decide +kernel
theorem dX6_read_25 : decode cX6_read 25 = .ok (.ireturn, 1) := by decide +kernel
theorem dX6_read_26 : decode cX6_read 26 = .ok (.aload_n 0, 1) := by decide +kernel
theorem dX6_read_27 : decode cX6_read 27 = .ok (.getfield 54, 3) := by decide +kernel
theorem dX6_read_30 : decode cX6_read 30 = .ok (.iload_n 1, 1) := by decide +kernel
theorem dX6_read_31 : decode cX6_read 31 = .ok (.aaload, 1) := by decide +kernel
theorem dX6_read_32 : decode cX6_read 32 = .ok (.getfield 126, 3) := by decide +kernel
theorem dX6_read_35 : decode cX6_read 35 = .ok (.ifCond .eq 9, 3) := by decide +kernel
theorem dX6_read_38 : decode cX6_read 38 = .ok (.aload_n 0, 1) := by decide +kernel
theorem dX6_read_39 : decode cX6_read 39 = .ok (.iconst 1, 1) := by decide +kernel
theorem dX6_read_40 : decode cX6_read 40 = .ok (.invokevirtual 129, 3) := by decide +kernel
theorem dX6_read_43 : decode cX6_read 43 = .ok (.ireturn, 1) := by decide +kernel
theorem dX6_read_44 : decode cX6_read 44 = .ok (.aload_n 0, 1) := by decide +kernel
theorem dX6_read_45 : decode cX6_read 45 = .ok (.aload_n 0, 1) := by decide +kernel
theorem dX6_read_46 : decode cX6_read 46 = .ok (.getfield 54, 3) := by decide +kernel
theorem dX6_read_49 : decode cX6_read 49 = .ok (.iload_n 1, 1) := by decide +kernel
theorem dX6_read_50 : decode cX6_read 50 = .ok (.aaload, 1) := by decide +kernel
theorem dX6_read_51 : decode cX6_read 51 = .ok (.iload_n 2, 1) := by decide +kernel
theorem dX6_read_52 : decode cX6_read 52 = .ok (.iload_n 3, 1) := by decide +kernel
theorem dX6_read_53 : decode cX6_read 53 = .ok (.invokevirtual 132, 3) := by decide +kernel
theorem dX6_read_56 : decode cX6_read 56 = .ok (.istore 4, 2) := by decide +kernel
theorem dX6_read_58 : decode cX6_read 58 = .ok (.aload_n 0, 1) := by decide +kernel
theorem dX6_read_59 : decode cX6_read 59 = .ok (.invokevirtual 120, 3) := by decide +kernel
theorem dX6_read_62 : decode cX6_read 62 = .ok (.iload 4, 2) := by decide +kernel
theorem dX6_read_64 : decode cX6_read 64 = .ok (.ireturn, 1) := by decide +kernel
theorem dX6_asOf_0 : decode cX6_asOf 0 = .ok (.iload_n 1, 1) := by decide +kernel
theorem dX6_asOf_1 : decode cX6_asOf 1 = .ok (.iconst 0, 1) := by decide +kernel
theorem dX6_asOf_2 : decode cX6_asOf 2 = .ok (.sipush 999, 3) := by decide +kernel
theorem dX6_asOf_5 : decode cX6_asOf 5 = .ok (.invokestatic 66, 3) := by decide +kernel
theorem dX6_asOf_8 : decode cX6_asOf 8 = .ok (.ifCond .ne 6, 3) := by decide +kernel
theorem dX6_asOf_11 : decode cX6_asOf 11 = .ok (.bipush (-2), 2) := by decide +kernel
theorem dX6_asOf_13 : decode cX6_asOf 13 = .ok (.ireturn, 1) := by decide +kernel
theorem dX6_asOf_14 : decode cX6_asOf 14 = .ok (.aload_n 0, 1) := by decide +kernel
theorem dX6_asOf_15 : decode cX6_asOf 15 = .ok (.getfield 58, 3) := by decide +kernel
theorem dX6_asOf_18 : decode cX6_asOf 18 = .ok (.istore_n 2, 1) := by decide +kernel
theorem dX6_asOf_19 : decode cX6_asOf 19 = .ok (.aload_n 0, 1) := by decide +kernel
theorem dX6_asOf_20 : decode cX6_asOf 20 = .ok (.iload_n 1, 1) := by decide +kernel
theorem dX6_asOf_21 : decode cX6_asOf 21 = .ok (.putfield 58, 3) := by decide +kernel
theorem dX6_asOf_24 : decode cX6_asOf 24 = .ok (.aload_n 0, 1) := by decide +kernel
theorem dX6_asOf_25 : decode cX6_asOf 25 = .ok (.invokevirtual 120, 3) := by decide +kernel
theorem dX6_asOf_28 : decode cX6_asOf 28 = .ok (.iload_n 2, 1) := by decide +kernel
theorem dX6_asOf_29 : decode cX6_asOf 29 = .ok (.ireturn, 1) := by decide +kernel
theorem dX6_has_0 : decode cX6_has 0 = .ok (.aload_n 0, 1) := by decide +kernel
theorem dX6_has_1 : decode cX6_has 1 = .ok (.iload_n 1, 1) := by decide +kernel
theorem dX6_has_2 : decode cX6_has 2 = .ok (.invokevirtual 81, 3) := by decide +kernel
theorem dX6_has_5 : decode cX6_has 5 = .ok (.ifCond .eq 15, 3) := by decide +kernel
theorem dX6_has_8 : decode cX6_has 8 = .ok (.aload_n 0, 1) := by decide +kernel
theorem dX6_has_9 : decode cX6_has 9 = .ok (.getfield 12, 3) := by decide +kernel
theorem dX6_has_12 : decode cX6_has 12 = .ok (.getfield 136, 3) := by decide +kernel
theorem dX6_has_15 : decode cX6_has 15 = .ok (.iload_n 1, 1) := by decide +kernel
theorem dX6_has_16 : decode cX6_has 16 = .ok (.iaload, 1) := by decide +kernel
theorem dX6_has_17 : decode cX6_has 17 = .ok (.goto 5, 3) := by decide +kernel
theorem dX6_has_20 : decode cX6_has 20 = .ok (.bipush (-2), 2) := by decide +kernel
theorem dX6_has_22 : decode cX6_has 22 = .ok (.ireturn, 1) := by decide +kernel
theorem dX6_gaps_0 : decode cX6_gaps 0 = .ok (.iload_n 1, 1) := by decide +kernel
theorem dX6_gaps_1 : decode cX6_gaps 1 = .ok (.invokestatic 123, 3) := by decide +kernel
theorem dX6_gaps_4 : decode cX6_gaps 4 = .ok (.ifCond .eq 12, 3) := by decide +kernel
theorem dX6_gaps_7 : decode cX6_gaps 7 = .ok (.iload_n 2, 1) := by decide +kernel
theorem dX6_gaps_8 : decode cX6_gaps 8 = .ok (.iconst 0, 1) := by decide +kernel
theorem dX6_gaps_9 : decode cX6_gaps 9 = .ok (.iconst 1, 1) := by decide +kernel
theorem dX6_gaps_10 : decode cX6_gaps 10 = .ok (.invokestatic 66, 3) := by decide +kernel
theorem dX6_gaps_13 : decode cX6_gaps 13 = .ok (.ifCond .ne 6, 3) := by decide +kernel
theorem dX6_gaps_16 : decode cX6_gaps 16 = .ok (.bipush (-2), 2) := by decide +kernel
theorem dX6_gaps_18 : decode cX6_gaps 18 = .ok (.ireturn, 1) := by decide +kernel
theorem dX6_gaps_19 : decode cX6_gaps 19 = .ok (.aload_n 0, 1) := by decide +kernel
theorem dX6_gaps_20 : decode cX6_gaps 20 = .ok (.getfield 54, 3) := by decide +kernel
theorem dX6_gaps_23 : decode cX6_gaps 23 = .ok (.iload_n 1, 1) := by decide +kernel
theorem dX6_gaps_24 : decode cX6_gaps 24 = .ok (.aaload, 1) := by decide +kernel
theorem dX6_gaps_25 : decode cX6_gaps 25 = .ok (.getfield 126, 3) := by decide +kernel
theorem dX6_gaps_28 : decode cX6_gaps 28 = .ok (.ifCond .eq 9, 3) := by decide +kernel
theorem dX6_gaps_31 : decode cX6_gaps 31 = .ok (.aload_n 0, 1) := by decide +kernel
theorem dX6_gaps_32 : decode cX6_gaps 32 = .ok (.iconst 1, 1) := by decide +kernel
theorem dX6_gaps_33 : decode cX6_gaps 33 = .ok (.invokevirtual 129, 3) := by decide +kernel
theorem dX6_gaps_36 : decode cX6_gaps 36 = .ok (.ireturn, 1) := by decide +kernel
theorem dX6_gaps_37 : decode cX6_gaps 37 = .ok (.aload_n 0, 1) := by decide +kernel
theorem dX6_gaps_38 : decode cX6_gaps 38 = .ok (.getfield 12, 3) := by decide +kernel
theorem dX6_gaps_41 : decode cX6_gaps 41 = .ok (.aload_n 0, 1) := by decide +kernel
theorem dX6_gaps_42 : decode cX6_gaps 42 = .ok (.getfield 54, 3) := by decide +kernel
theorem dX6_gaps_45 : decode cX6_gaps 45 = .ok (.iload_n 1, 1) := by decide +kernel
theorem dX6_gaps_46 : decode cX6_gaps 46 = .ok (.aaload, 1) := by decide +kernel
theorem dX6_gaps_47 : decode cX6_gaps 47 = .ok (.getfield 139, 3) := by decide +kernel
theorem dX6_gaps_50 : decode cX6_gaps 50 = .ok (.aload_n 0, 1) := by decide +kernel
theorem dX6_gaps_51 : decode cX6_gaps 51 = .ok (.getfield 54, 3) := by decide +kernel
theorem dX6_gaps_54 : decode cX6_gaps 54 = .ok (.iload_n 1, 1) := by decide +kernel
theorem dX6_gaps_55 : decode cX6_gaps 55 = .ok (.aaload, 1) := by decide +kernel
theorem dX6_gaps_56 : decode cX6_gaps 56 = .ok (.getfield 142, 3) := by decide +kernel
theorem dX6_gaps_59 : decode cX6_gaps 59 = .ok (.invokevirtual 145, 3) := by decide +kernel
theorem dX6_gaps_62 : decode cX6_gaps 62 = .ok (.ifCond .ne 6, 3) := by decide +kernel
theorem dX6_gaps_65 : decode cX6_gaps 65 = .ok (.bipush (-3), 2) := by decide +kernel
theorem dX6_gaps_67 : decode cX6_gaps 67 = .ok (.ireturn, 1) := by decide +kernel
theorem dX6_gaps_68 : decode cX6_gaps 68 = .ok (.iload_n 2, 1) := by decide +kernel
theorem dX6_gaps_69 : decode cX6_gaps 69 = .ok (.ifCond .ne 20, 3) := by decide +kernel
theorem dX6_gaps_72 : decode cX6_gaps 72 = .ok (.aload_n 0, 1) := by decide +kernel
theorem dX6_gaps_73 : decode cX6_gaps 73 = .ok (.getfield 48, 3) := by decide +kernel
theorem dX6_gaps_76 : decode cX6_gaps 76 = .ok (.aload_n 0, 1) := by decide +kernel
theorem dX6_gaps_77 : decode cX6_gaps 77 = .ok (.getfield 54, 3) := by decide +kernel
theorem dX6_gaps_80 : decode cX6_gaps 80 = .ok (.iload_n 1, 1) := by decide +kernel
theorem dX6_gaps_81 : decode cX6_gaps 81 = .ok (.aaload, 1) := by decide +kernel
theorem dX6_gaps_82 : decode cX6_gaps 82 = .ok (.getfield 139, 3) := by decide +kernel
theorem dX6_gaps_85 : decode cX6_gaps 85 = .ok (.invokevirtual 149, 3) := by decide +kernel
theorem dX6_gaps_88 : decode cX6_gaps 88 = .ok (.ireturn, 1) := by decide +kernel
theorem dX6_gaps_89 : decode cX6_gaps 89 = .ok (.aload_n 0, 1) := by decide +kernel
theorem dX6_gaps_90 : decode cX6_gaps 90 = .ok (.getfield 12, 3) := by decide +kernel
theorem dX6_gaps_93 : decode cX6_gaps 93 = .ok (.aload_n 0, 1) := by decide +kernel
theorem dX6_gaps_94 : decode cX6_gaps 94 = .ok (.getfield 54, 3) := by decide +kernel
theorem dX6_gaps_97 : decode cX6_gaps 97 = .ok (.iload_n 1, 1) := by decide +kernel
theorem dX6_gaps_98 : decode cX6_gaps 98 = .ok (.aaload, 1) := by decide +kernel
theorem dX6_gaps_99 : decode cX6_gaps 99 = .ok (.getfield 139, 3) := by decide +kernel
theorem dX6_gaps_102 : decode cX6_gaps 102 = .ok (.invokevirtual 153, 3) := by decide +kernel
theorem dX6_gaps_105 : decode cX6_gaps 105 = .ok (.invokestatic 157, 3) := by decide +kernel
theorem dX6_gaps_108 : decode cX6_gaps 108 = .ok (.ireturn, 1) := by decide +kernel
theorem dX6_best_0 : decode cX6_best 0 = .ok (.iload_n 1, 1) := by decide +kernel
theorem dX6_best_1 : decode cX6_best 1 = .ok (.iconst 0, 1) := by decide +kernel
theorem dX6_best_2 : decode cX6_best 2 = .ok (.iconst 2, 1) := by decide +kernel
theorem dX6_best_3 : decode cX6_best 3 = .ok (.invokestatic 66, 3) := by decide +kernel
theorem dX6_best_6 : decode cX6_best 6 = .ok (.ifCond .ne 6, 3) := by decide +kernel
theorem dX6_best_9 : decode cX6_best 9 = .ok (.bipush (-2), 2) := by decide +kernel
theorem dX6_best_11 : decode cX6_best 11 = .ok (.ireturn, 1) := by decide +kernel
theorem dX6_best_12 : decode cX6_best 12 = .ok (.aload_n 0, 1) := by decide +kernel
theorem dX6_best_13 : decode cX6_best 13 = .ok (.getfield 35, 3) := by decide +kernel
theorem dX6_best_16 : decode cX6_best 16 = .ok (.invokevirtual 161, 3) := by decide +kernel
theorem dX6_best_19 : decode cX6_best 19 = .ok (.ifCond .ne 6, 3) := by decide +kernel
theorem dX6_best_22 : decode cX6_best 22 = .ok (.bipush (-3), 2) := by decide +kernel
theorem dX6_best_24 : decode cX6_best 24 = .ok (.ireturn, 1) := by decide +kernel
theorem dX6_best_25 : decode cX6_best 25 = .ok (.iload_n 1, 1) := by decide +kernel
theorem dX6_best_26 : decode cX6_best 26 = .ok (.ifCond .ne 13, 3) := by decide +kernel
theorem dX6_best_29 : decode cX6_best 29 = .ok (.aload_n 0, 1) := by decide +kernel
theorem dX6_best_30 : decode cX6_best 30 = .ok (.getfield 35, 3) := by decide +kernel
theorem dX6_best_33 : decode cX6_best 33 = .ok (.getfield 165, 3) := by decide +kernel
theorem dX6_best_36 : decode cX6_best 36 = .ok (.iconst 0, 1) := by decide +kernel
theorem dX6_best_37 : decode cX6_best 37 = .ok (.iaload, 1) := by decide +kernel
theorem dX6_best_38 : decode cX6_best 38 = .ok (.ireturn, 1) := by decide +kernel
theorem dX6_best_39 : decode cX6_best 39 = .ok (.iload_n 1, 1) := by decide +kernel
theorem dX6_best_40 : decode cX6_best 40 = .ok (.iconst 1, 1) := by decide +kernel
theorem dX6_best_41 : decode cX6_best 41 = .ok (.if_icmp .ne 15, 3) := by decide +kernel
theorem dX6_best_44 : decode cX6_best 44 = .ok (.aload_n 0, 1) := by decide +kernel
theorem dX6_best_45 : decode cX6_best 45 = .ok (.getfield 35, 3) := by decide +kernel
theorem dX6_best_48 : decode cX6_best 48 = .ok (.getfield 168, 3) := by decide +kernel
theorem dX6_best_51 : decode cX6_best 51 = .ok (.iconst 0, 1) := by decide +kernel
theorem dX6_best_52 : decode cX6_best 52 = .ok (.iaload, 1) := by decide +kernel
theorem dX6_best_53 : decode cX6_best 53 = .ok (.goto 13, 3) := by decide +kernel
theorem dX6_best_56 : decode cX6_best 56 = .ok (.aload_n 0, 1) := by decide +kernel
theorem dX6_best_57 : decode cX6_best 57 = .ok (.getfield 48, 3) := by decide +kernel
theorem dX6_best_60 : decode cX6_best 60 = .ok (.invokevirtual 171, 3) := by decide +kernel
theorem dX6_best_63 : decode cX6_best 63 = .ok (.invokestatic 157, 3) := by decide +kernel
theorem dX6_best_66 : decode cX6_best 66 = .ok (.ireturn, 1) := by decide +kernel
theorem dX6_first_0 : decode cX6_first 0 = .ok (.iload_n 1, 1) := by decide +kernel
theorem dX6_first_1 : decode cX6_first 1 = .ok (.ifCond .ge 6, 3) := by decide +kernel
theorem dX6_first_4 : decode cX6_first 4 = .ok (.bipush (-2), 2) := by decide +kernel
theorem dX6_first_6 : decode cX6_first 6 = .ok (.ireturn, 1) := by decide +kernel
theorem dX6_first_7 : decode cX6_first 7 = .ok (.aload_n 0, 1) := by decide +kernel
theorem dX6_first_8 : decode cX6_first 8 = .ok (.getfield 35, 3) := by decide +kernel
theorem dX6_first_11 : decode cX6_first 11 = .ok (.invokevirtual 161, 3) := by decide +kernel
theorem dX6_first_14 : decode cX6_first 14 = .ok (.ifCond .ne 6, 3) := by decide +kernel
theorem dX6_first_17 : decode cX6_first 17 = .ok (.bipush (-3), 2) := by decide +kernel
theorem dX6_first_19 : decode cX6_first 19 = .ok (.ireturn, 1) := by decide +kernel
theorem dX6_first_20 : decode cX6_first 20 = .ok (.iload_n 1, 1) := by decide +kernel
theorem dX6_first_21 : decode cX6_first 21 = .ok (.aload_n 0, 1) := by decide +kernel
theorem dX6_first_22 : decode cX6_first 22 = .ok (.getfield 12, 3) := by decide +kernel
theorem dX6_first_25 : decode cX6_first 25 = .ok (.getfield 70, 3) := by decide +kernel
theorem dX6_first_28 : decode cX6_first 28 = .ok (.if_icmp .ge 15, 3) := by decide +kernel
theorem dX6_first_31 : decode cX6_first 31 = .ok (.aload_n 0, 1) := by decide +kernel
theorem dX6_first_32 : decode cX6_first 32 = .ok (.getfield 35, 3) := by decide +kernel
theorem dX6_first_35 : decode cX6_first 35 = .ok (.getfield 41, 3) := by decide +kernel
theorem dX6_first_38 : decode cX6_first 38 = .ok (.iload_n 1, 1) := by decide +kernel
theorem dX6_first_39 : decode cX6_first 39 = .ok (.iaload, 1) := by decide +kernel
theorem dX6_first_40 : decode cX6_first 40 = .ok (.goto 4, 3) := by decide +kernel
theorem dX6_first_43 : decode cX6_first 43 = .ok (.iconst (-1), 1) := by decide +kernel
theorem dX6_first_44 : decode cX6_first 44 = .ok (.ireturn, 1) := by decide +kernel
theorem dX6_sure_0 : decode cX6_sure 0 = .ok (.aload_n 0, 1) := by decide +kernel
theorem dX6_sure_1 : decode cX6_sure 1 = .ok (.iload_n 1, 1) := by decide +kernel
theorem dX6_sure_2 : decode cX6_sure 2 = .ok (.iload_n 2, 1) := by decide +kernel
theorem dX6_sure_3 : decode cX6_sure 3 = .ok (.invokevirtual 94, 3) := by decide +kernel
theorem dX6_sure_6 : decode cX6_sure 6 = .ok (.ifCond .ne 6, 3) := by decide +kernel
theorem dX6_sure_9 : decode cX6_sure 9 = .ok (.bipush (-2), 2) := by decide +kernel
theorem dX6_sure_11 : decode cX6_sure 11 = .ok (.ireturn, 1) := by decide +kernel
theorem dX6_sure_12 : decode cX6_sure 12 = .ok (.aload_n 0, 1) := by decide +kernel
theorem dX6_sure_13 : decode cX6_sure 13 = .ok (.getfield 35, 3) := by decide +kernel
theorem dX6_sure_16 : decode cX6_sure 16 = .ok (.invokevirtual 161, 3) := by decide +kernel
theorem dX6_sure_19 : decode cX6_sure 19 = .ok (.ifCond .ne 6, 3) := by decide +kernel
theorem dX6_sure_22 : decode cX6_sure 22 = .ok (.bipush (-3), 2) := by decide +kernel
theorem dX6_sure_24 : decode cX6_sure 24 = .ok (.ireturn, 1) := by decide +kernel
theorem dX6_sure_25 : decode cX6_sure 25 = .ok (.aload_n 0, 1) := by decide +kernel
theorem dX6_sure_26 : decode cX6_sure 26 = .ok (.getfield 35, 3) := by decide +kernel
theorem dX6_sure_29 : decode cX6_sure 29 = .ok (.iload_n 1, 1) := by decide +kernel
theorem dX6_sure_30 : decode cX6_sure 30 = .ok (.iload_n 2, 1) := by decide +kernel
theorem dX6_sure_31 : decode cX6_sure 31 = .ok (.invokevirtual 174, 3) := by decide +kernel
theorem dX6_sure_34 : decode cX6_sure 34 = .ok (.invokestatic 157, 3) := by decide +kernel
theorem dX6_sure_37 : decode cX6_sure 37 = .ok (.ireturn, 1) := by decide +kernel
theorem dX6_places_0 : decode cX6_places 0 = .ok (.aload_n 0, 1) := by decide +kernel
theorem dX6_places_1 : decode cX6_places 1 = .ok (.iload_n 1, 1) := by decide +kernel
theorem dX6_places_2 : decode cX6_places 2 = .ok (.invokevirtual 81, 3) := by decide +kernel
theorem dX6_places_5 : decode cX6_places 5 = .ok (.ifCond .ne 6, 3) := by decide +kernel
theorem dX6_places_8 : decode cX6_places 8 = .ok (.bipush (-2), 2) := by decide +kernel
theorem dX6_places_10 : decode cX6_places 10 = .ok (.ireturn, 1) := by decide +kernel
theorem dX6_places_11 : decode cX6_places 11 = .ok (.aload_n 0, 1) := by decide +kernel
theorem dX6_places_12 : decode cX6_places 12 = .ok (.getfield 35, 3) := by decide +kernel
theorem dX6_places_15 : decode cX6_places 15 = .ok (.invokevirtual 161, 3) := by decide +kernel
theorem dX6_places_18 : decode cX6_places 18 = .ok (.ifCond .ne 6, 3) := by decide +kernel
theorem dX6_places_21 : decode cX6_places 21 = .ok (.bipush (-3), 2) := by decide +kernel
theorem dX6_places_23 : decode cX6_places 23 = .ok (.ireturn, 1) := by decide +kernel
theorem dX6_places_24 : decode cX6_places 24 = .ok (.aload_n 0, 1) := by decide +kernel
