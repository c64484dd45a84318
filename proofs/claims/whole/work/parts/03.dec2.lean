theorem dX6_places_25 : decode cX6_places 25 = .ok (.getfield 35, 3) := by decide +kernel
theorem dX6_places_28 : decode cX6_places 28 = .ok (.iload_n 1, 1) := by decide +kernel
theorem dX6_places_29 : decode cX6_places 29 = .ok (.invokevirtual 177, 3) := by decide +kernel
theorem dX6_places_32 : decode cX6_places 32 = .ok (.ireturn, 1) := by decide +kernel
theorem dX6_spread_0 : decode cX6_spread 0 = .ok (.iload_n 1, 1) := by decide +kernel
theorem dX6_spread_1 : decode cX6_spread 1 = .ok (.iconst 0, 1) := by decide +kernel
theorem dX6_spread_2 : decode cX6_spread 2 = .ok (.sipush 999, 3) := by decide +kernel
theorem dX6_spread_5 : decode cX6_spread 5 = .ok (.invokestatic 66, 3) := by decide +kernel
theorem dX6_spread_8 : decode cX6_spread 8 = .ok (.ifCond .eq 12, 3) := by decide +kernel
theorem dX6_spread_11 : decode cX6_spread 11 = .ok (.iload_n 2, 1) := by decide +kernel
theorem dX6_spread_12 : decode cX6_spread 12 = .ok (.iconst 0, 1) := by decide +kernel
theorem dX6_spread_13 : decode cX6_spread 13 = .ok (.iconst 1, 1) := by decide +kernel
theorem dX6_spread_14 : decode cX6_spread 14 = .ok (.invokestatic 66, 3) := by decide +kernel
theorem dX6_spread_17 : decode cX6_spread 17 = .ok (.ifCond .ne 6, 3) := by decide +kernel
theorem dX6_spread_20 : decode cX6_spread 20 = .ok (.bipush (-2), 2) := by decide +kernel
theorem dX6_spread_22 : decode cX6_spread 22 = .ok (.ireturn, 1) := by decide +kernel
theorem dX6_spread_23 : decode cX6_spread 23 = .ok (.aload_n 0, 1) := by decide +kernel
theorem dX6_spread_24 : decode cX6_spread 24 = .ok (.getfield 35, 3) := by decide +kernel
theorem dX6_spread_27 : decode cX6_spread 27 = .ok (.invokevirtual 161, 3) := by decide +kernel
theorem dX6_spread_30 : decode cX6_spread 30 = .ok (.pop, 1) := by decide +kernel
theorem dX6_spread_31 : decode cX6_spread 31 = .ok (.aload_n 0, 1) := by decide +kernel
theorem dX6_spread_32 : decode cX6_spread 32 = .ok (.getfield 35, 3) := by decide +kernel
theorem dX6_spread_35 : decode cX6_spread 35 = .ok (.invokevirtual 180, 3) := by decide +kernel
theorem dX6_spread_38 : decode cX6_spread 38 = .ok (.iload_n 2, 1) := by decide +kernel
theorem dX6_spread_39 : decode cX6_spread 39 = .ok (.ifCond .ne 14, 3) := by decide +kernel
theorem dX6_spread_42 : decode cX6_spread 42 = .ok (.aload_n 0, 1) := by decide +kernel
theorem dX6_spread_43 : decode cX6_spread 43 = .ok (.getfield 35, 3) := by decide +kernel
theorem dX6_spread_46 : decode cX6_spread 46 = .ok (.iload_n 1, 1) := by decide +kernel
theorem dX6_spread_47 : decode cX6_spread 47 = .ok (.invokevirtual 183, 3) := by decide +kernel
theorem dX6_spread_50 : decode cX6_spread 50 = .ok (.goto 11, 3) := by decide +kernel
theorem dX6_spread_53 : decode cX6_spread 53 = .ok (.aload_n 0, 1) := by decide +kernel
theorem dX6_spread_54 : decode cX6_spread 54 = .ok (.getfield 35, 3) := by decide +kernel
theorem dX6_spread_57 : decode cX6_spread 57 = .ok (.iload_n 1, 1) := by decide +kernel
theorem dX6_spread_58 : decode cX6_spread 58 = .ok (.invokevirtual 186, 3) := by decide +kernel
theorem dX6_spread_61 : decode cX6_spread 61 = .ok (.ireturn, 1) := by decide +kernel
theorem dX6_mean_0 : decode cX6_mean 0 = .ok (.iload_n 1, 1) := by decide +kernel
theorem dX6_mean_1 : decode cX6_mean 1 = .ok (.iconst 0, 1) := by decide +kernel
theorem dX6_mean_2 : decode cX6_mean 2 = .ok (.iconst 1, 1) := by decide +kernel
theorem dX6_mean_3 : decode cX6_mean 3 = .ok (.invokestatic 66, 3) := by decide +kernel
theorem dX6_mean_6 : decode cX6_mean 6 = .ok (.ifCond .ne 9, 3) := by decide +kernel
theorem dX6_mean_9 : decode cX6_mean 9 = .ok (.bipush (-2), 2) := by decide +kernel
theorem dX6_mean_11 : decode cX6_mean 11 = .ok (.invokestatic 189, 3) := by decide +kernel
theorem dX6_mean_14 : decode cX6_mean 14 = .ok (.lreturn, 1) := by decide +kernel
theorem dX6_mean_15 : decode cX6_mean 15 = .ok (.aload_n 0, 1) := by decide +kernel
theorem dX6_mean_16 : decode cX6_mean 16 = .ok (.getfield 35, 3) := by decide +kernel
theorem dX6_mean_19 : decode cX6_mean 19 = .ok (.invokevirtual 161, 3) := by decide +kernel
theorem dX6_mean_22 : decode cX6_mean 22 = .ok (.ifCond .ne 9, 3) := by decide +kernel
theorem dX6_mean_25 : decode cX6_mean 25 = .ok (.bipush (-3), 2) := by decide +kernel
theorem dX6_mean_27 : decode cX6_mean 27 = .ok (.invokestatic 189, 3) := by decide +kernel
theorem dX6_mean_30 : decode cX6_mean 30 = .ok (.lreturn, 1) := by decide +kernel
theorem dX6_mean_31 : decode cX6_mean 31 = .ok (.aload_n 0, 1) := by decide +kernel
theorem dX6_mean_32 : decode cX6_mean 32 = .ok (.getfield 35, 3) := by decide +kernel
theorem dX6_mean_35 : decode cX6_mean 35 = .ok (.invokevirtual 180, 3) := by decide +kernel
theorem dX6_mean_38 : decode cX6_mean 38 = .ok (.aload_n 0, 1) := by decide +kernel
theorem dX6_mean_39 : decode cX6_mean 39 = .ok (.getfield 35, 3) := by decide +kernel
theorem dX6_mean_42 : decode cX6_mean 42 = .ok (.invokevirtual 193, 3) := by decide +kernel
theorem dX6_mean_45 : decode cX6_mean 45 = .ok (.aload_n 0, 1) := by decide +kernel
theorem dX6_mean_46 : decode cX6_mean 46 = .ok (.getfield 35, 3) := by decide +kernel
theorem dX6_mean_49 : decode cX6_mean 49 = .ok (.sipush 999, 3) := by decide +kernel
theorem dX6_mean_52 : decode cX6_mean 52 = .ok (.invokevirtual 186, 3) := by decide +kernel
theorem dX6_mean_55 : decode cX6_mean 55 = .ok (.iload_n 1, 1) := by decide +kernel
theorem dX6_mean_56 : decode cX6_mean 56 = .ok (.invokestatic 197, 3) := by decide +kernel
theorem dX6_mean_59 : decode cX6_mean 59 = .ok (.lreturn, 1) := by decide +kernel
theorem dX6_leftOut_0 : decode cX6_leftOut 0 = .ok (.aload_n 0, 1) := by decide +kernel
theorem dX6_leftOut_1 : decode cX6_leftOut 1 = .ok (.getfield 35, 3) := by decide +kernel
theorem dX6_leftOut_4 : decode cX6_leftOut 4 = .ok (.invokevirtual 161, 3) := by decide +kernel
theorem dX6_leftOut_7 : decode cX6_leftOut 7 = .ok (.ifCond .eq 13, 3) := by decide +kernel
theorem dX6_leftOut_10 : decode cX6_leftOut 10 = .ok (.aload_n 0, 1) := by decide +kernel
theorem dX6_leftOut_11 : decode cX6_leftOut 11 = .ok (.getfield 35, 3) := by decide +kernel
theorem dX6_leftOut_14 : decode cX6_leftOut 14 = .ok (.invokevirtual 201, 3) := by decide +kernel
theorem dX6_leftOut_17 : decode cX6_leftOut 17 = .ok (.goto 5, 3) := by decide +kernel
theorem dX6_leftOut_20 : decode cX6_leftOut 20 = .ok (.bipush (-3), 2) := by decide +kernel
theorem dX6_leftOut_22 : decode cX6_leftOut 22 = .ok (.ireturn, 1) := by decide +kernel
theorem dX6_mended_0 : decode cX6_mended 0 = .ok (.iload_n 1, 1) := by decide +kernel
theorem dX6_mended_1 : decode cX6_mended 1 = .ok (.invokestatic 88, 3) := by decide +kernel
theorem dX6_mended_4 : decode cX6_mended 4 = .ok (.ifCond .ne 6, 3) := by decide +kernel
theorem dX6_mended_7 : decode cX6_mended 7 = .ok (.bipush (-2), 2) := by decide +kernel
theorem dX6_mended_9 : decode cX6_mended 9 = .ok (.ireturn, 1) := by decide +kernel
theorem dX6_mended_10 : decode cX6_mended 10 = .ok (.aload_n 0, 1) := by decide +kernel
theorem dX6_mended_11 : decode cX6_mended 11 = .ok (.getfield 35, 3) := by decide +kernel
theorem dX6_mended_14 : decode cX6_mended 14 = .ok (.invokevirtual 161, 3) := by decide +kernel
theorem dX6_mended_17 : decode cX6_mended 17 = .ok (.ifCond .eq 14, 3) := by decide +kernel
theorem dX6_mended_20 : decode cX6_mended 20 = .ok (.aload_n 0, 1) := by decide +kernel
theorem dX6_mended_21 : decode cX6_mended 21 = .ok (.getfield 48, 3) := by decide +kernel
theorem dX6_mended_24 : decode cX6_mended 24 = .ok (.iload_n 1, 1) := by decide +kernel
theorem dX6_mended_25 : decode cX6_mended 25 = .ok (.invokevirtual 204, 3) := by decide +kernel
theorem dX6_mended_28 : decode cX6_mended 28 = .ok (.goto 5, 3) := by decide +kernel
theorem dX6_mended_31 : decode cX6_mended 31 = .ok (.bipush (-3), 2) := by decide +kernel
theorem dX6_mended_33 : decode cX6_mended 33 = .ok (.ireturn, 1) := by decide +kernel
theorem dX6_phases_0 : decode cX6_phases 0 = .ok (.iload_n 1, 1) := by decide +kernel
theorem dX6_phases_1 : decode cX6_phases 1 = .ok (.iconst 1, 1) := by decide +kernel
theorem dX6_phases_2 : decode cX6_phases 2 = .ok (.bipush 8, 2) := by decide +kernel
theorem dX6_phases_4 : decode cX6_phases 4 = .ok (.invokestatic 66, 3) := by decide +kernel
theorem dX6_phases_7 : decode cX6_phases 7 = .ok (.ifCond .eq 16, 3) := by decide +kernel
theorem dX6_phases_10 : decode cX6_phases 10 = .ok (.iload_n 2, 1) := by decide +kernel
theorem dX6_phases_11 : decode cX6_phases 11 = .ok (.iconst (-1), 1) := by decide +kernel
theorem dX6_phases_12 : decode cX6_phases 12 = .ok (.if_icmp .eq 14, 3) := by decide +kernel
theorem dX6_phases_15 : decode cX6_phases 15 = .ok (.aload_n 0, 1) := by decide +kernel
theorem dX6_phases_16 : decode cX6_phases 16 = .ok (.iload_n 2, 1) := by decide +kernel
theorem dX6_phases_17 : decode cX6_phases 17 = .ok (.invokevirtual 81, 3) := by decide +kernel
theorem dX6_phases_20 : decode cX6_phases 20 = .ok (.ifCond .ne 6, 3) := by decide +kernel
theorem dX6_phases_23 : decode cX6_phases 23 = .ok (.bipush (-2), 2) := by decide +kernel
theorem dX6_phases_25 : decode cX6_phases 25 = .ok (.ireturn, 1) := by decide +kernel
theorem dX6_phases_26 : decode cX6_phases 26 = .ok (.iload_n 1, 1) := by decide +kernel
theorem dX6_phases_27 : decode cX6_phases 27 = .ok (.aload_n 0, 1) := by decide +kernel
theorem dX6_phases_28 : decode cX6_phases 28 = .ok (.getfield 12, 3) := by decide +kernel
theorem dX6_phases_31 : decode cX6_phases 31 = .ok (.getfield 70, 3) := by decide +kernel
theorem dX6_phases_34 : decode cX6_phases 34 = .ok (.if_icmp .gt 13, 3) := by decide +kernel
theorem dX6_phases_37 : decode cX6_phases 37 = .ok (.aload_n 0, 1) := by decide +kernel
theorem dX6_phases_38 : decode cX6_phases 38 = .ok (.getfield 35, 3) := by decide +kernel
theorem dX6_phases_41 : decode cX6_phases 41 = .ok (.invokevirtual 161, 3) := by decide +kernel
theorem dX6_phases_44 : decode cX6_phases 44 = .ok (.ifCond .ne 6, 3) := by decide +kernel
theorem dX6_phases_47 : decode cX6_phases 47 = .ok (.bipush (-3), 2) := by decide +kernel
theorem dX6_phases_49 : decode cX6_phases 49 = .ok (.ireturn, 1) := by decide +kernel
theorem dX6_phases_50 : decode cX6_phases 50 = .ok (.aload_n 0, 1) := by decide +kernel
theorem dX6_phases_51 : decode cX6_phases 51 = .ok (.getfield 48, 3) := by decide +kernel
theorem dX6_phases_54 : decode cX6_phases 54 = .ok (.iload_n 1, 1) := by decide +kernel
theorem dX6_phases_55 : decode cX6_phases 55 = .ok (.invokevirtual 207, 3) := by decide +kernel
theorem dX6_phases_58 : decode cX6_phases 58 = .ok (.istore_n 3, 1) := by decide +kernel
theorem dX6_phases_59 : decode cX6_phases 59 = .ok (.iload_n 2, 1) := by decide +kernel
theorem dX6_phases_60 : decode cX6_phases 60 = .ok (.iconst (-1), 1) := by decide +kernel
theorem dX6_phases_61 : decode cX6_phases 61 = .ok (.if_icmp .ne 14, 3) := by decide +kernel
theorem dX6_phases_64 : decode cX6_phases 64 = .ok (.aload_n 0, 1) := by decide +kernel
theorem dX6_phases_65 : decode cX6_phases 65 = .ok (.getfield 48, 3) := by decide +kernel
theorem dX6_phases_68 : decode cX6_phases 68 = .ok (.iload_n 3, 1) := by decide +kernel
theorem dX6_phases_69 : decode cX6_phases 69 = .ok (.invokevirtual 210, 3) := by decide +kernel
theorem dX6_phases_72 : decode cX6_phases 72 = .ok (.goto 12, 3) := by decide +kernel
theorem dX6_phases_75 : decode cX6_phases 75 = .ok (.aload_n 0, 1) := by decide +kernel
theorem dX6_phases_76 : decode cX6_phases 76 = .ok (.getfield 48, 3) := by decide +kernel
theorem dX6_phases_79 : decode cX6_phases 79 = .ok (.iload_n 2, 1) := by decide +kernel
theorem dX6_phases_80 : decode cX6_phases 80 = .ok (.iload_n 3, 1) := by decide +kernel
theorem dX6_phases_81 : decode cX6_phases 81 = .ok (.invokevirtual 213, 3) := by decide +kernel
theorem dX6_phases_84 : decode cX6_phases 84 = .ok (.ireturn, 1) := by decide +kernel
theorem dX6_years_0 : decode cX6_years 0 = .ok (.iload_n 1, 1) := by decide +kernel
theorem dX6_years_1 : decode cX6_years 1 = .ok (.iconst 0, 1) := by decide +kernel
theorem dX6_years_2 : decode cX6_years 2 = .ok (.iconst 1, 1) := by decide +kernel
theorem dX6_years_3 : decode cX6_years 3 = .ok (.invokestatic 66, 3) := by decide +kernel
theorem dX6_years_6 : decode cX6_years 6 = .ok (.ifCond .eq 34, 3) := by decide +kernel
theorem dX6_years_9 : decode cX6_years 9 = .ok (.iload_n 3, 1) := by decide +kernel
theorem dX6_years_10 : decode cX6_years 10 = .ok (.iconst 0, 1) := by decide +kernel
theorem dX6_years_11 : decode cX6_years 11 = .ok (.iconst 1, 1) := by decide +kernel
theorem dX6_years_12 : decode cX6_years 12 = .ok (.invokestatic 66, 3) := by decide +kernel
theorem dX6_years_15 : decode cX6_years 15 = .ok (.ifCond .eq 25, 3) := by decide +kernel
theorem dX6_years_18 : decode cX6_years 18 = .ok (.iload_n 1, 1) := by decide +kernel
theorem dX6_years_19 : decode cX6_years 19 = .ok (.ifCond .ne 14, 3) := by decide +kernel
theorem dX6_years_22 : decode cX6_years 22 = .ok (.aload_n 0, 1) := by decide +kernel
theorem dX6_years_23 : decode cX6_years 23 = .ok (.iload_n 2, 1) := by decide +kernel
theorem dX6_years_24 : decode cX6_years 24 = .ok (.invokevirtual 81, 3) := by decide +kernel
theorem dX6_years_27 : decode cX6_years 27 = .ok (.ifCond .eq 13, 3) := by decide +kernel
theorem dX6_years_30 : decode cX6_years 30 = .ok (.goto 13, 3) := by decide +kernel
theorem dX6_years_33 : decode cX6_years 33 = .ok (.iload_n 2, 1) := by decide +kernel
theorem dX6_years_34 : decode cX6_years 34 = .ok (.invokestatic 88, 3) := by decide +kernel
theorem dX6_years_37 : decode cX6_years 37 = .ok (.ifCond .ne 6, 3) := by decide +kernel
theorem dX6_years_40 : decode cX6_years 40 = .ok (.bipush (-2), 2) := by decide +kernel
theorem dX6_years_42 : decode cX6_years 42 = .ok (.ireturn, 1) := by decide +kernel
theorem dX6_years_43 : decode cX6_years 43 = .ok (.aload_n 0, 1) := by decide +kernel
theorem dX6_years_44 : decode cX6_years 44 = .ok (.getfield 35, 3) := by decide +kernel
theorem dX6_years_47 : decode cX6_years 47 = .ok (.invokevirtual 161, 3) := by decide +kernel
theorem dX6_years_50 : decode cX6_years 50 = .ok (.ifCond .ne 6, 3) := by decide +kernel
theorem dX6_years_53 : decode cX6_years 53 = .ok (.bipush (-3), 2) := by decide +kernel
theorem dX6_years_55 : decode cX6_years 55 = .ok (.ireturn, 1) := by decide +kernel
theorem dX6_years_56 : decode cX6_years 56 = .ok (.iload_n 1, 1) := by decide +kernel
theorem dX6_years_57 : decode cX6_years 57 = .ok (.ifCond .ne 13, 3) := by decide +kernel
theorem dX6_years_60 : decode cX6_years 60 = .ok (.aload_n 0, 1) := by decide +kernel
theorem dX6_years_61 : decode cX6_years 61 = .ok (.getfield 48, 3) := by decide +kernel
theorem dX6_years_64 : decode cX6_years 64 = .ok (.iload_n 2, 1) := by decide +kernel
theorem dX6_years_65 : decode cX6_years 65 = .ok (.iload_n 3, 1) := by decide +kernel
theorem dX6_years_66 : decode cX6_years 66 = .ok (.invokevirtual 216, 3) := by decide +kernel
theorem dX6_years_69 : decode cX6_years 69 = .ok (.ireturn, 1) := by decide +kernel
theorem dX6_years_70 : decode cX6_years 70 = .ok (.aload_n 0, 1) := by decide +kernel
theorem dX6_years_71 : decode cX6_years 71 = .ok (.getfield 12, 3) := by decide +kernel
theorem dX6_years_74 : decode cX6_years 74 = .ok (.invokevirtual 219, 3) := by decide +kernel
theorem dX6_years_77 : decode cX6_years 77 = .ok (.iload_n 2, 1) := by decide +kernel
theorem dX6_years_78 : decode cX6_years 78 = .ok (.ishr, 1) := by decide +kernel
theorem dX6_years_79 : decode cX6_years 79 = .ok (.iconst 1, 1) := by decide +kernel
theorem dX6_years_80 : decode cX6_years 80 = .ok (.iand, 1) := by decide +kernel
theorem dX6_years_81 : decode cX6_years 81 = .ok (.ifCond .ne 8, 3) := by decide +kernel
theorem dX6_years_84 : decode cX6_years 84 = .ok (.bipush (-3), 2) := by decide +kernel
theorem dX6_years_86 : decode cX6_years 86 = .ok (.goto 12, 3) := by decide +kernel
theorem dX6_years_89 : decode cX6_years 89 = .ok (.aload_n 0, 1) := by decide +kernel
theorem dX6_years_90 : decode cX6_years 90 = .ok (.getfield 48, 3) := by decide +kernel
theorem dX6_years_93 : decode cX6_years 93 = .ok (.iload_n 2, 1) := by decide +kernel
theorem dX6_years_94 : decode cX6_years 94 = .ok (.iload_n 3, 1) := by decide +kernel
theorem dX6_years_95 : decode cX6_years 95 = .ok (.invokevirtual 222, 3) := by decide +kernel
theorem dX6_years_98 : decode cX6_years 98 = .ok (.ireturn, 1) := by decide +kernel
theorem dX6_fresh_0 : decode cX6_fresh 0 = .ok (.iload_n 1, 1) := by decide +kernel
theorem dX6_fresh_1 : decode cX6_fresh 1 = .ok (.iconst 0, 1) := by decide +kernel
theorem dX6_fresh_2 : decode cX6_fresh 2 = .ok (.sipush 1023, 3) := by decide +kernel
theorem dX6_fresh_5 : decode cX6_fresh 5 = .ok (.invokestatic 66, 3) := by decide +kernel
theorem dX6_fresh_8 : decode cX6_fresh 8 = .ok (.ifCond .eq 12, 3) := by decide +kernel
theorem dX6_fresh_11 : decode cX6_fresh 11 = .ok (.iload_n 2, 1) := by decide +kernel
theorem dX6_fresh_12 : decode cX6_fresh 12 = .ok (.iconst 0, 1) := by decide +kernel
theorem dX6_fresh_13 : decode cX6_fresh 13 = .ok (.iconst 1, 1) := by decide +kernel
theorem dX6_fresh_14 : decode cX6_fresh 14 = .ok (.invokestatic 66, 3) := by decide +kernel
theorem dX6_fresh_17 : decode cX6_fresh 17 = .ok (.ifCond .ne 6, 3) := by decide +kernel
theorem dX6_fresh_20 : decode cX6_fresh 20 = .ok (.bipush (-2), 2) := by decide +kernel
theorem dX6_fresh_22 : decode cX6_fresh 22 = .ok (.ireturn, 1) := by decide +kernel
theorem dX6_fresh_23 : decode cX6_fresh 23 = .ok (.aload_n 0, 1) := by decide +kernel
theorem dX6_fresh_24 : decode cX6_fresh 24 = .ok (.getfield 35, 3) := by decide +kernel
theorem dX6_fresh_27 : decode cX6_fresh 27 = .ok (.invokevirtual 161, 3) := by decide +kernel
theorem dX6_fresh_30 : decode cX6_fresh 30 = .ok (.ifCond .ne 6, 3) := by decide +kernel
theorem dX6_fresh_33 : decode cX6_fresh 33 = .ok (.bipush (-3), 2) := by decide +kernel
theorem dX6_fresh_35 : decode cX6_fresh 35 = .ok (.ireturn, 1) := by decide +kernel
theorem dX6_fresh_36 : decode cX6_fresh 36 = .ok (.aload_n 0, 1) := by decide +kernel
theorem dX6_fresh_37 : decode cX6_fresh 37 = .ok (.getfield 48, 3) := by decide +kernel
theorem dX6_fresh_40 : decode cX6_fresh 40 = .ok (.iload_n 1, 1) := by decide +kernel
theorem dX6_fresh_41 : decode cX6_fresh 41 = .ok (.invokevirtual 225, 3) := by decide +kernel
theorem dX6_fresh_44 : decode cX6_fresh 44 = .ok (.istore_n 3, 1) := by decide +kernel
theorem dX6_fresh_45 : decode cX6_fresh 45 = .ok (.iload_n 2, 1) := by decide +kernel
theorem dX6_fresh_46 : decode cX6_fresh 46 = .ok (.ifCond .ne 15, 3) := by decide +kernel
theorem dX6_fresh_49 : decode cX6_fresh 49 = .ok (.aload_n 0, 1) := by decide +kernel
theorem dX6_fresh_50 : decode cX6_fresh 50 = .ok (.getfield 48, 3) := by decide +kernel
theorem dX6_fresh_53 : decode cX6_fresh 53 = .ok (.iload_n 1, 1) := by decide +kernel
theorem dX6_fresh_54 : decode cX6_fresh 54 = .ok (.iload_n 3, 1) := by decide +kernel
theorem dX6_fresh_55 : decode cX6_fresh 55 = .ok (.invokevirtual 228, 3) := by decide +kernel
theorem dX6_fresh_58 : decode cX6_fresh 58 = .ok (.goto 4, 3) := by decide +kernel
theorem dX6_fresh_61 : decode cX6_fresh 61 = .ok (.iload_n 3, 1) := by decide +kernel
theorem dX6_fresh_62 : decode cX6_fresh 62 = .ok (.ireturn, 1) := by decide +kernel
theorem dX6_alike_0 : decode cX6_alike 0 = .ok (.aload_n 0, 1) := by decide +kernel
theorem dX6_alike_1 : decode cX6_alike 1 = .ok (.iload_n 1, 1) := by decide +kernel
theorem dX6_alike_2 : decode cX6_alike 2 = .ok (.iload_n 2, 1) := by decide +kernel
theorem dX6_alike_3 : decode cX6_alike 3 = .ok (.invokevirtual 94, 3) := by decide +kernel
theorem dX6_alike_6 : decode cX6_alike 6 = .ok (.ifCond .eq 12, 3) := by decide +kernel
theorem dX6_alike_9 : decode cX6_alike 9 = .ok (.iload_n 3, 1) := by decide +kernel
theorem dX6_alike_10 : decode cX6_alike 10 = .ok (.iconst 0, 1) := by decide +kernel
theorem dX6_alike_11 : decode cX6_alike 11 = .ok (.iconst 1, 1) := by decide +kernel
theorem dX6_alike_12 : decode cX6_alike 12 = .ok (.invokestatic 66, 3) := by decide +kernel
theorem dX6_alike_15 : decode cX6_alike 15 = .ok (.ifCond .ne 9, 3) := by decide +kernel
theorem dX6_alike_18 : decode cX6_alike 18 = .ok (.bipush (-2), 2) := by decide +kernel
theorem dX6_alike_20 : decode cX6_alike 20 = .ok (.invokestatic 189, 3) := by decide +kernel
theorem dX6_alike_23 : decode cX6_alike 23 = .ok (.lreturn, 1) := by decide +kernel
theorem dX6_alike_24 : decode cX6_alike 24 = .ok (.aload_n 0, 1) := by decide +kernel
theorem dX6_alike_25 : decode cX6_alike 25 = .ok (.getfield 12, 3) := by decide +kernel
theorem dX6_alike_28 : decode cX6_alike 28 = .ok (.iload_n 1, 1) := by decide +kernel
theorem dX6_alike_29 : decode cX6_alike 29 = .ok (.iload_n 2, 1) := by decide +kernel
theorem dX6_alike_30 : decode cX6_alike 30 = .ok (.invokevirtual 231, 3) := by decide +kernel
theorem dX6_alike_33 : decode cX6_alike 33 = .ok (.istore 4, 2) := by decide +kernel
theorem dX6_alike_35 : decode cX6_alike 35 = .ok (.iload 4, 2) := by decide +kernel
theorem dX6_alike_37 : decode cX6_alike 37 = .ok (.ifCond .ne 11, 3) := by decide +kernel
theorem dX6_alike_40 : decode cX6_alike 40 = .ok (.bipush (-3), 2) := by decide +kernel
theorem dX6_alike_42 : decode cX6_alike 42 = .ok (.invokestatic 189, 3) := by decide +kernel
theorem dX6_alike_45 : decode cX6_alike 45 = .ok (.goto 18, 3) := by decide +kernel
theorem dX6_alike_48 : decode cX6_alike 48 = .ok (.aload_n 0, 1) := by decide +kernel
theorem dX6_alike_49 : decode cX6_alike 49 = .ok (.getfield 12, 3) := by decide +kernel
theorem dX6_alike_52 : decode cX6_alike 52 = .ok (.iload_n 1, 1) := by decide +kernel
theorem dX6_alike_53 : decode cX6_alike 53 = .ok (.iload_n 2, 1) := by decide +kernel
theorem dX6_alike_54 : decode cX6_alike 54 = .ok (.invokevirtual 234, 3) := by decide +kernel
theorem dX6_alike_57 : decode cX6_alike 57 = .ok (.iload 4, 2) := by decide +kernel
theorem dX6_alike_59 : decode cX6_alike 59 = .ok (.iload_n 3, 1) := by decide +kernel
theorem dX6_alike_60 : decode cX6_alike 60 = .ok (.invokestatic 197, 3) := by decide +kernel
theorem dX6_alike_63 : decode cX6_alike 63 = .ok (.lreturn, 1) := by decide +kernel
theorem dX6_nearest_0 : decode cX6_nearest 0 = .ok (.aload_n 0, 1) := by decide +kernel
theorem dX6_nearest_1 : decode cX6_nearest 1 = .ok (.iload_n 1, 1) := by decide +kernel
theorem dX6_nearest_2 : decode cX6_nearest 2 = .ok (.invokevirtual 81, 3) := by decide +kernel
theorem dX6_nearest_5 : decode cX6_nearest 5 = .ok (.ifCond .eq 14, 3) := by decide +kernel
theorem dX6_nearest_8 : decode cX6_nearest 8 = .ok (.aload_n 0, 1) := by decide +kernel
theorem dX6_nearest_9 : decode cX6_nearest 9 = .ok (.getfield 12, 3) := by decide +kernel
theorem dX6_nearest_12 : decode cX6_nearest 12 = .ok (.iload_n 1, 1) := by decide +kernel
theorem dX6_nearest_13 : decode cX6_nearest 13 = .ok (.invokevirtual 237, 3) := by decide +kernel
theorem dX6_nearest_16 : decode cX6_nearest 16 = .ok (.goto 5, 3) := by decide +kernel
theorem dX6_nearest_19 : decode cX6_nearest 19 = .ok (.bipush (-2), 2) := by decide +kernel
theorem dX6_nearest_21 : decode cX6_nearest 21 = .ok (.ireturn, 1) := by decide +kernel
theorem dX6_sheet_0 : decode cX6_sheet 0 = .ok (.iload_n 1, 1) := by decide +kernel
theorem dX6_sheet_1 : decode cX6_sheet 1 = .ok (.invokestatic 123, 3) := by decide +kernel
theorem dX6_sheet_4 : decode cX6_sheet 4 = .ok (.ifCond .eq 18, 3) := by decide +kernel
theorem dX6_sheet_7 : decode cX6_sheet 7 = .ok (.iload_n 2, 1) := by decide +kernel
theorem dX6_sheet_8 : decode cX6_sheet 8 = .ok (.iconst 0, 1) := by decide +kernel
theorem dX6_sheet_9 : decode cX6_sheet 9 = .ok (.iconst 2, 1) := by decide +kernel
theorem dX6_sheet_10 : decode cX6_sheet 10 = .ok (.invokestatic 66, 3) := by decide +kernel
theorem dX6_sheet_13 : decode cX6_sheet 13 = .ok (.ifCond .eq 9, 3) := by decide +kernel
theorem dX6_sheet_16 : decode cX6_sheet 16 = .ok (.iload_n 3, 1) := by decide +kernel
theorem dX6_sheet_17 : decode cX6_sheet 17 = .ok (.bipush 40, 2) := by decide +kernel
theorem dX6_sheet_19 : decode cX6_sheet 19 = .ok (.if_icmp .le 6, 3) := by decide +kernel
theorem dX6_sheet_22 : decode cX6_sheet 22 = .ok (.bipush (-2), 2) := by decide +kernel
theorem dX6_sheet_24 : decode cX6_sheet 24 = .ok (.ireturn, 1) := by decide +kernel
theorem dX6_sheet_25 : decode cX6_sheet 25 = .ok (.iload_n 3, 1) := by decide +kernel
theorem dX6_sheet_26 : decode cX6_sheet 26 = .ok (.ifCond .ge 9, 3) := by decide +kernel
theorem dX6_sheet_29 : decode cX6_sheet 29 = .ok (.aload_n 0, 1) := by decide +kernel
theorem dX6_sheet_30 : decode cX6_sheet 30 = .ok (.iconst 5, 1) := by decide +kernel
theorem dX6_sheet_31 : decode cX6_sheet 31 = .ok (.invokevirtual 129, 3) := by decide +kernel
theorem dX6_sheet_34 : decode cX6_sheet 34 = .ok (.ireturn, 1) := by decide +kernel
theorem dX6_sheet_35 : decode cX6_sheet 35 = .ok (.aload_n 0, 1) := by decide +kernel
theorem dX6_sheet_36 : decode cX6_sheet 36 = .ok (.getfield 54, 3) := by decide +kernel
theorem dX6_sheet_39 : decode cX6_sheet 39 = .ok (.iload_n 1, 1) := by decide +kernel
theorem dX6_sheet_40 : decode cX6_sheet 40 = .ok (.aaload, 1) := by decide +kernel
theorem dX6_sheet_41 : decode cX6_sheet 41 = .ok (.iload_n 2, 1) := by decide +kernel
theorem dX6_sheet_42 : decode cX6_sheet 42 = .ok (.iload_n 3, 1) := by decide +kernel
theorem dX6_sheet_43 : decode cX6_sheet 43 = .ok (.invokevirtual 240, 3) := by decide +kernel
theorem dX6_sheet_46 : decode cX6_sheet 46 = .ok (.iload_n 3, 1) := by decide +kernel
theorem dX6_sheet_47 : decode cX6_sheet 47 = .ok (.ireturn, 1) := by decide +kernel
theorem dX6_lose_0 : decode cX6_lose 0 = .ok (.iload_n 1, 1) := by decide +kernel
theorem dX6_lose_1 : decode cX6_lose 1 = .ok (.invokestatic 123, 3) := by decide +kernel
theorem dX6_lose_4 : decode cX6_lose 4 = .ok (.ifCond .ne 6, 3) := by decide +kernel
theorem dX6_lose_7 : decode cX6_lose 7 = .ok (.bipush (-2), 2) := by decide +kernel
theorem dX6_lose_9 : decode cX6_lose 9 = .ok (.ireturn, 1) := by decide +kernel
theorem dX6_lose_10 : decode cX6_lose 10 = .ok (.aload_n 0, 1) := by decide +kernel
theorem dX6_lose_11 : decode cX6_lose 11 = .ok (.getfield 54, 3) := by decide +kernel
theorem dX6_lose_14 : decode cX6_lose 14 = .ok (.iload_n 1, 1) := by decide +kernel
theorem dX6_lose_15 : decode cX6_lose 15 = .ok (.aaload, 1) := by decide +kernel
theorem dX6_lose_16 : decode cX6_lose 16 = .ok (.getfield 126, 3) := by decide +kernel
theorem dX6_lose_19 : decode cX6_lose 19 = .ok (.ifCond .eq 9, 3) := by decide +kernel
theorem dX6_lose_22 : decode cX6_lose 22 = .ok (.aload_n 0, 1) := by decide +kernel
theorem dX6_lose_23 : decode cX6_lose 23 = .ok (.iconst 1, 1) := by decide +kernel
theorem dX6_lose_24 : decode cX6_lose 24 = .ok (.invokevirtual 129, 3) := by decide +kernel
theorem dX6_lose_27 : decode cX6_lose 27 = .ok (.ireturn, 1) := by decide +kernel
theorem dX6_lose_28 : decode cX6_lose 28 = .ok (.aload_n 0, 1) := by decide +kernel
theorem dX6_lose_29 : decode cX6_lose 29 = .ok (.getfield 54, 3) := by decide +kernel
theorem dX6_lose_32 : decode cX6_lose 32 = .ok (.iload_n 1, 1) := by decide +kernel
theorem dX6_lose_33 : decode cX6_lose 33 = .ok (.aaload, 1) := by decide +kernel
theorem dX6_lose_34 : decode cX6_lose 34 = .ok (.iconst 1, 1) := by decide +kernel
theorem dX6_lose_35 : decode cX6_lose 35 = .ok (.putfield 126, 3) := by decide +kernel
theorem dX6_lose_38 : decode cX6_lose 38 = .ok (.aload_n 0, 1) := by decide +kernel
theorem dX6_lose_39 : decode cX6_lose 39 = .ok (.getfield 54, 3) := by decide +kernel
theorem dX6_lose_42 : decode cX6_lose 42 = .ok (.iload_n 1, 1) := by decide +kernel
theorem dX6_lose_43 : decode cX6_lose 43 = .ok (.aaload, 1) := by decide +kernel
theorem dX6_lose_44 : decode cX6_lose 44 = .ok (.getfield 142, 3) := by decide +kernel
theorem dX6_lose_47 : decode cX6_lose 47 = .ok (.ireturn, 1) := by decide +kernel
theorem dX6_put_0 : decode cX6_put 0 = .ok (.iload_n 1, 1) := by decide +kernel
theorem dX6_put_1 : decode cX6_put 1 = .ok (.invokestatic 123, 3) := by decide +kernel
theorem dX6_put_4 : decode cX6_put 4 = .ok (.ifCond .eq 12, 3) := by decide +kernel
theorem dX6_put_7 : decode cX6_put 7 = .ok (.iload_n 2, 1) := by decide +kernel
theorem dX6_put_8 : decode cX6_put 8 = .ok (.iconst 0, 1) := by decide +kernel
theorem dX6_put_9 : decode cX6_put 9 = .ok (.iconst 2, 1) := by decide +kernel
theorem dX6_put_10 : decode cX6_put 10 = .ok (.invokestatic 66, 3) := by decide +kernel
theorem dX6_put_13 : decode cX6_put 13 = .ok (.ifCond .ne 6, 3) := by decide +kernel
theorem dX6_put_16 : decode cX6_put 16 = .ok (.bipush (-2), 2) := by decide +kernel
theorem dX6_put_18 : decode cX6_put 18 = .ok (.ireturn, 1) := by decide +kernel
theorem dX6_put_19 : decode cX6_put 19 = .ok (.aload_n 0, 1) := by decide +kernel
theorem dX6_put_20 : decode cX6_put 20 = .ok (.getfield 54, 3) := by decide +kernel
theorem dX6_put_23 : decode cX6_put 23 = .ok (.iload_n 1, 1) := by decide +kernel
theorem dX6_put_24 : decode cX6_put 24 = .ok (.aaload, 1) := by decide +kernel
theorem dX6_put_25 : decode cX6_put 25 = .ok (.iload_n 2, 1) := by decide +kernel
theorem dX6_put_26 : decode cX6_put 26 = .ok (.iload_n 3, 1) := by decide +kernel
theorem dX6_put_27 : decode cX6_put 27 = .ok (.invokevirtual 244, 3) := by decide +kernel
theorem dX6_put_30 : decode cX6_put 30 = .ok (.istore 5, 2) := by decide +kernel
theorem dX6_put_32 : decode cX6_put 32 = .ok (.iload 5, 2) := by decide +kernel
theorem dX6_put_34 : decode cX6_put 34 = .ok (.ifCond .eq 10, 3) := by decide +kernel
theorem dX6_put_37 : decode cX6_put 37 = .ok (.aload_n 0, 1) := by decide +kernel
theorem dX6_put_38 : decode cX6_put 38 = .ok (.iload 5, 2) := by decide +kernel
theorem dX6_put_40 : decode cX6_put 40 = .ok (.invokevirtual 129, 3) := by decide +kernel
theorem dX6_put_43 : decode cX6_put 43 = .ok (.ireturn, 1) := by decide +kernel
theorem dX6_put_44 : decode cX6_put 44 = .ok (.aload_n 0, 1) := by decide +kernel
theorem dX6_put_45 : decode cX6_put 45 = .ok (.getfield 54, 3) := by decide +kernel
theorem dX6_put_48 : decode cX6_put 48 = .ok (.iload_n 1, 1) := by decide +kernel
theorem dX6_put_49 : decode cX6_put 49 = .ok (.aaload, 1) := by decide +kernel
theorem dX6_put_50 : decode cX6_put 50 = .ok (.iload_n 3, 1) := by decide +kernel
theorem dX6_put_51 : decode cX6_put 51 = .ok (.iload 4, 2) := by decide +kernel
theorem dX6_put_53 : decode cX6_put 53 = .ok (.invokevirtual 247, 3) := by decide +kernel
theorem dX6_put_56 : decode cX6_put 56 = .ok (.iconst 1, 1) := by decide +kernel
theorem dX6_put_57 : decode cX6_put 57 = .ok (.ireturn, 1) := by decide +kernel
theorem dX6_get_0 : decode cX6_get 0 = .ok (.iload_n 1, 1) := by decide +kernel
theorem dX6_get_1 : decode cX6_get 1 = .ok (.invokestatic 123, 3) := by decide +kernel
theorem dX6_get_4 : decode cX6_get 4 = .ok (.ifCond .eq 12, 3) := by decide +kernel
theorem dX6_get_7 : decode cX6_get 7 = .ok (.iload_n 2, 1) := by decide +kernel
theorem dX6_get_8 : decode cX6_get 8 = .ok (.iconst 0, 1) := by decide +kernel
theorem dX6_get_9 : decode cX6_get 9 = .ok (.iconst 2, 1) := by decide +kernel
theorem dX6_get_10 : decode cX6_get 10 = .ok (.invokestatic 66, 3) := by decide +kernel
theorem dX6_get_13 : decode cX6_get 13 = .ok (.ifCond .ne 6, 3) := by decide +kernel
theorem dX6_get_16 : decode cX6_get 16 = .ok (.ldc 250, 2) := by decide +kernel
theorem dX6_get_18 : decode cX6_get 18 = .ok (.ireturn, 1) := by decide +kernel
theorem dX6_get_19 : decode cX6_get 19 = .ok (.aload_n 0, 1) := by decide +kernel
theorem dX6_get_20 : decode cX6_get 20 = .ok (.getfield 54, 3) := by decide +kernel
theorem dX6_get_23 : decode cX6_get 23 = .ok (.iload_n 1, 1) := by decide +kernel
theorem dX6_get_24 : decode cX6_get 24 = .ok (.aaload, 1) := by decide +kernel
theorem dX6_get_25 : decode cX6_get 25 = .ok (.iload_n 2, 1) := by decide +kernel
theorem dX6_get_26 : decode cX6_get 26 = .ok (.iload_n 3, 1) := by decide +kernel
theorem dX6_get_27 : decode cX6_get 27 = .ok (.invokevirtual 244, 3) := by decide +kernel
theorem dX6_get_30 : decode cX6_get 30 = .ok (.istore 4, 2) := by decide +kernel
theorem dX6_get_32 : decode cX6_get 32 = .ok (.iload 4, 2) := by decide +kernel
theorem dX6_get_34 : decode cX6_get 34 = .ok (.ifCond .eq 12, 3) := by decide +kernel
theorem dX6_get_37 : decode cX6_get 37 = .ok (.aload_n 0, 1) := by decide +kernel
theorem dX6_get_38 : decode cX6_get 38 = .ok (.iload 4, 2) := by decide +kernel
theorem dX6_get_40 : decode cX6_get 40 = .ok (.putfield 62, 3) := by decide +kernel
theorem dX6_get_43 : decode cX6_get 43 = .ok (.ldc 250, 2) := by decide +kernel
theorem dX6_get_45 : decode cX6_get 45 = .ok (.ireturn, 1) := by decide +kernel
theorem dX6_get_46 : decode cX6_get 46 = .ok (.aload_n 0, 1) := by decide +kernel
theorem dX6_get_47 : decode cX6_get 47 = .ok (.getfield 54, 3) := by decide +kernel
theorem dX6_get_50 : decode cX6_get 50 = .ok (.iload_n 1, 1) := by decide +kernel
theorem dX6_get_51 : decode cX6_get 51 = .ok (.aaload, 1) := by decide +kernel
theorem dX6_get_52 : decode cX6_get 52 = .ok (.getfield 139, 3) := by decide +kernel
theorem dX6_get_55 : decode cX6_get 55 = .ok (.iload_n 3, 1) := by decide +kernel
theorem dX6_get_56 : decode cX6_get 56 = .ok (.iaload, 1) := by decide +kernel
theorem dX6_get_57 : decode cX6_get 57 = .ok (.ireturn, 1) := by decide +kernel
theorem dX6_copy_0 : decode cX6_copy 0 = .ok (.iload_n 1, 1) := by decide +kernel
theorem dX6_copy_1 : decode cX6_copy 1 = .ok (.invokestatic 123, 3) := by decide +kernel
theorem dX6_copy_4 : decode cX6_copy 4 = .ok (.ifCond .eq 10, 3) := by decide +kernel
theorem dX6_copy_7 : decode cX6_copy 7 = .ok (.iload_n 3, 1) := by decide +kernel
theorem dX6_copy_8 : decode cX6_copy 8 = .ok (.invokestatic 123, 3) := by decide +kernel
theorem dX6_copy_11 : decode cX6_copy 11 = .ok (.ifCond .ne 6, 3) := by decide +kernel
theorem dX6_copy_14 : decode cX6_copy 14 = .ok (.bipush (-2), 2) := by decide +kernel
theorem dX6_copy_16 : decode cX6_copy 16 = .ok (.ireturn, 1) := by decide +kernel
theorem dX6_copy_17 : decode cX6_copy 17 = .ok (.aload_n 0, 1) := by decide +kernel
theorem dX6_copy_18 : decode cX6_copy 18 = .ok (.getfield 54, 3) := by decide +kernel
theorem dX6_copy_21 : decode cX6_copy 21 = .ok (.iload_n 1, 1) := by decide +kernel
theorem dX6_copy_22 : decode cX6_copy 22 = .ok (.aaload, 1) := by decide +kernel
theorem dX6_copy_23 : decode cX6_copy 23 = .ok (.getfield 126, 3) := by decide +kernel
theorem dX6_copy_26 : decode cX6_copy 26 = .ok (.ifCond .ne 15, 3) := by decide +kernel
theorem dX6_copy_29 : decode cX6_copy 29 = .ok (.aload_n 0, 1) := by decide +kernel
theorem dX6_copy_30 : decode cX6_copy 30 = .ok (.getfield 54, 3) := by decide +kernel
theorem dX6_copy_33 : decode cX6_copy 33 = .ok (.iload_n 3, 1) := by decide +kernel
theorem dX6_copy_34 : decode cX6_copy 34 = .ok (.aaload, 1) := by decide +kernel
theorem dX6_copy_35 : decode cX6_copy 35 = .ok (.getfield 126, 3) := by decide +kernel
theorem dX6_copy_38 : decode cX6_copy 38 = .ok (.ifCond .eq 9, 3) := by decide +kernel
theorem dX6_copy_41 : decode cX6_copy 41 = .ok (.aload_n 0, 1) := by decide +kernel
theorem dX6_copy_42 : decode cX6_copy 42 = .ok (.iconst 1, 1) := by decide +kernel
theorem dX6_copy_43 : decode cX6_copy 43 = .ok (.invokevirtual 129, 3) := by decide +kernel
theorem dX6_copy_46 : decode cX6_copy 46 = .ok (.ireturn, 1) := by decide +kernel
theorem dX6_copy_47 : decode cX6_copy 47 = .ok (.aload_n 0, 1) := by decide +kernel
theorem dX6_copy_48 : decode cX6_copy 48 = .ok (.getfield 54, 3) := by decide +kernel
theorem dX6_copy_51 : decode cX6_copy 51 = .ok (.iload_n 1, 1) := by decide +kernel
theorem dX6_copy_52 : decode cX6_copy 52 = .ok (.aaload, 1) := by decide +kernel
theorem dX6_copy_53 : decode cX6_copy 53 = .ok (.getfield 251, 3) := by decide +kernel
theorem dX6_copy_56 : decode cX6_copy 56 = .ok (.aload_n 0, 1) := by decide +kernel
theorem dX6_copy_57 : decode cX6_copy 57 = .ok (.getfield 54, 3) := by decide +kernel
theorem dX6_copy_60 : decode cX6_copy 60 = .ok (.iload_n 3, 1) := by decide +kernel
theorem dX6_copy_61 : decode cX6_copy 61 = .ok (.aaload, 1) := by decide +kernel
theorem dX6_copy_62 : decode cX6_copy 62 = .ok (.getfield 251, 3) := by decide +kernel
theorem dX6_copy_65 : decode cX6_copy 65 = .ok (.if_icmp .eq 9, 3) := by decide +kernel
theorem dX6_copy_68 : decode cX6_copy 68 = .ok (.aload_n 0, 1) := by decide +kernel
theorem dX6_copy_69 : decode cX6_copy 69 = .ok (.iconst 4, 1) := by decide +kernel
theorem dX6_copy_70 : decode cX6_copy 70 = .ok (.invokevirtual 129, 3) := by decide +kernel
theorem dX6_copy_73 : decode cX6_copy 73 = .ok (.ireturn, 1) := by decide +kernel
theorem dX6_copy_74 : decode cX6_copy 74 = .ok (.aload_n 0, 1) := by decide +kernel
theorem dX6_copy_75 : decode cX6_copy 75 = .ok (.getfield 54, 3) := by decide +kernel
theorem dX6_copy_78 : decode cX6_copy 78 = .ok (.iload_n 1, 1) := by decide +kernel
theorem dX6_copy_79 : decode cX6_copy 79 = .ok (.aaload, 1) := by decide +kernel
theorem dX6_copy_80 : decode cX6_copy 80 = .ok (.iload_n 2, 1) := by decide +kernel
theorem dX6_copy_81 : decode cX6_copy 81 = .ok (.iload 5, 2) := by decide +kernel
theorem dX6_copy_83 : decode cX6_copy 83 = .ok (.invokevirtual 254, 3) := by decide +kernel
theorem dX6_copy_86 : decode cX6_copy 86 = .ok (.ifCond .eq 19, 3) := by decide +kernel
theorem dX6_copy_89 : decode cX6_copy 89 = .ok (.aload_n 0, 1) := by decide +kernel
theorem dX6_copy_90 : decode cX6_copy 90 = .ok (.getfield 54, 3) := by decide +kernel
theorem dX6_copy_93 : decode cX6_copy 93 = .ok (.iload_n 3, 1) := by decide +kernel
theorem dX6_copy_94 : decode cX6_copy 94 = .ok (.aaload, 1) := by decide +kernel
theorem dX6_copy_95 : decode cX6_copy 95 = .ok (.iload 4, 2) := by decide +kernel
theorem dX6_copy_97 : decode cX6_copy 97 = .ok (.iload 5, 2) := by decide +kernel
theorem dX6_copy_99 : decode cX6_copy 99 = .ok (.invokevirtual 254, 3) := by decide +kernel
theorem dX6_copy_102 : decode cX6_copy 102 = .ok (.ifCond .ne 9, 3) := by decide +kernel
theorem dX6_copy_105 : decode cX6_copy 105 = .ok (.aload_n 0, 1) := by decide +kernel
theorem dX6_copy_106 : decode cX6_copy 106 = .ok (.iconst 2, 1) := by decide +kernel
theorem dX6_copy_107 : decode cX6_copy 107 = .ok (.invokevirtual 129, 3) := by decide +kernel
theorem dX6_copy_110 : decode cX6_copy 110 = .ok (.ireturn, 1) := by decide +kernel
theorem dX6_copy_111 : decode cX6_copy 111 = .ok (.aload_n 0, 1) := by decide +kernel
theorem dX6_copy_112 : decode cX6_copy 112 = .ok (.getfield 54, 3) := by decide +kernel
theorem dX6_copy_115 : decode cX6_copy 115 = .ok (.iload_n 1, 1) := by decide +kernel
theorem dX6_copy_116 : decode cX6_copy 116 = .ok (.aaload, 1) := by decide +kernel
theorem dX6_copy_117 : decode cX6_copy 117 = .ok (.getfield 139, 3) := by decide +kernel
theorem dX6_copy_120 : decode cX6_copy 120 = .ok (.iload_n 2, 1) := by decide +kernel
theorem dX6_copy_121 : decode cX6_copy 121 = .ok (.aload_n 0, 1) := by decide +kernel
theorem dX6_copy_122 : decode cX6_copy 122 = .ok (.getfield 54, 3) := by decide +kernel
theorem dX6_copy_125 : decode cX6_copy 125 = .ok (.iload_n 3, 1) := by decide +kernel
theorem dX6_copy_126 : decode cX6_copy 126 = .ok (.aaload, 1) := by decide +kernel
theorem dX6_copy_127 : decode cX6_copy 127 = .ok (.getfield 139, 3) := by decide +kernel
theorem dX6_copy_130 : decode cX6_copy 130 = .ok (.iload 4, 2) := by decide +kernel
theorem dX6_copy_132 : decode cX6_copy 132 = .ok (.iload 5, 2) := by decide +kernel
theorem dX6_copy_134 : decode cX6_copy 134 = .ok (.invokestatic 257, 3) := by decide +kernel
theorem dX6_copy_137 : decode cX6_copy 137 = .ok (.iconst 1, 1) := by decide +kernel
theorem dX6_copy_138 : decode cX6_copy 138 = .ok (.ireturn, 1) := by decide +kernel
theorem dX6_write_0 : decode cX6_write 0 = .ok (.iload_n 1, 1) := by decide +kernel
theorem dX6_write_1 : decode cX6_write 1 = .ok (.invokestatic 123, 3) := by decide +kernel
theorem dX6_write_4 : decode cX6_write 4 = .ok (.ifCond .ne 6, 3) := by decide +kernel
theorem dX6_write_7 : decode cX6_write 7 = .ok (.bipush (-2), 2) := by decide +kernel
theorem dX6_write_9 : decode cX6_write 9 = .ok (.ireturn, 1) := by decide +kernel
theorem dX6_write_10 : decode cX6_write 10 = .ok (.aload_n 0, 1) := by decide +kernel
theorem dX6_write_11 : decode cX6_write 11 = .ok (.getfield 54, 3) := by decide +kernel
theorem dX6_write_14 : decode cX6_write 14 = .ok (.iload_n 1, 1) := by decide +kernel
theorem dX6_write_15 : decode cX6_write 15 = .ok (.aaload, 1) := by decide +kernel
theorem dX6_write_16 : decode cX6_write 16 = .ok (.getfield 126, 3) := by decide +kernel
theorem dX6_write_19 : decode cX6_write 19 = .ok (.ifCond .eq 9, 3) := by decide +kernel
theorem dX6_write_22 : decode cX6_write 22 = .ok (.aload_n 0, 1) := by decide +kernel
theorem dX6_write_23 : decode cX6_write 23 = .ok (.iconst 1, 1) := by decide +kernel
theorem dX6_write_24 : decode cX6_write 24 = .ok (.invokevirtual 129, 3) := by decide +kernel
theorem dX6_write_27 : decode cX6_write 27 = .ok (.ireturn, 1) := by decide +kernel
theorem dX6_write_28 : decode cX6_write 28 = .ok (.aload_n 0, 1) := by decide +kernel
theorem dX6_write_29 : decode cX6_write 29 = .ok (.getfield 35, 3) := by decide +kernel
theorem dX6_write_32 : decode cX6_write 32 = .ok (.invokevirtual 161, 3) := by decide +kernel
theorem dX6_write_35 : decode cX6_write 35 = .ok (.ifCond .ne 6, 3) := by decide +kernel
theorem dX6_write_38 : decode cX6_write 38 = .ok (.bipush (-3), 2) := by decide +kernel
theorem dX6_write_40 : decode cX6_write 40 = .ok (.ireturn, 1) := by decide +kernel
theorem dX6_write_41 : decode cX6_write 41 = .ok (.aload_n 0, 1) := by decide +kernel
theorem dX6_write_42 : decode cX6_write 42 = .ok (.getfield 54, 3) := by decide +kernel
theorem dX6_write_45 : decode cX6_write 45 = .ok (.iload_n 1, 1) := by decide +kernel
theorem dX6_write_46 : decode cX6_write 46 = .ok (.aaload, 1) := by decide +kernel
theorem dX6_write_47 : decode cX6_write 47 = .ok (.getfield 142, 3) := by decide +kernel
theorem dX6_write_50 : decode cX6_write 50 = .ok (.aload_n 0, 1) := by decide +kernel
theorem dX6_write_51 : decode cX6_write 51 = .ok (.getfield 12, 3) := by decide +kernel
theorem dX6_write_54 : decode cX6_write 54 = .ok (.getfield 70, 3) := by decide +kernel
theorem dX6_write_57 : decode cX6_write 57 = .ok (.invokestatic 263, 3) := by decide +kernel
theorem dX6_write_60 : decode cX6_write 60 = .ok (.istore_n 2, 1) := by decide +kernel
theorem dX6_write_61 : decode cX6_write 61 = .ok (.iconst 0, 1) := by decide +kernel
theorem dX6_write_62 : decode cX6_write 62 = .ok (.istore_n 3, 1) := by decide +kernel
theorem dX6_write_63 : decode cX6_write 63 = .ok (.iload_n 3, 1) := by decide +kernel
theorem dX6_write_64 : decode cX6_write 64 = .ok (.iload_n 2, 1) := by decide +kernel
theorem dX6_write_65 : decode cX6_write 65 = .ok (.if_icmp .ge 28, 3) := by decide +kernel
theorem dX6_write_68 : decode cX6_write 68 = .ok (.aload_n 0, 1) := by decide +kernel
theorem dX6_write_69 : decode cX6_write 69 = .ok (.getfield 54, 3) := by decide +kernel
theorem dX6_write_72 : decode cX6_write 72 = .ok (.iload_n 1, 1) := by decide +kernel
theorem dX6_write_73 : decode cX6_write 73 = .ok (.aaload, 1) := by decide +kernel
theorem dX6_write_74 : decode cX6_write 74 = .ok (.iload_n 3, 1) := by decide +kernel
theorem dX6_write_75 : decode cX6_write 75 = .ok (.aload_n 0, 1) := by decide +kernel
theorem dX6_write_76 : decode cX6_write 76 = .ok (.getfield 35, 3) := by decide +kernel
theorem dX6_write_79 : decode cX6_write 79 = .ok (.getfield 41, 3) := by decide +kernel
theorem dX6_write_82 : decode cX6_write 82 = .ok (.iload_n 3, 1) := by decide +kernel
theorem dX6_write_83 : decode cX6_write 83 = .ok (.iaload, 1) := by decide +kernel
theorem dX6_write_84 : decode cX6_write 84 = .ok (.invokevirtual 247, 3) := by decide +kernel
theorem dX6_write_87 : decode cX6_write 87 = .ok (.iinc 3 1, 3) := by decide +kernel
theorem dX6_write_90 : decode cX6_write 90 = .ok (.goto (-27), 3) := by decide +kernel
theorem dX6_write_93 : decode cX6_write 93 = .ok (.iload_n 2, 1) := by decide +kernel
theorem dX6_write_94 : decode cX6_write 94 = .ok (.ireturn, 1) := by decide +kernel
theorem dX6_count_0 : decode cX6_count 0 = .ok (.iload_n 1, 1) := by decide +kernel
theorem dX6_count_1 : decode cX6_count 1 = .ok (.tableswitch 117 0 8 #[51, 59, 67, 75, 83, 91, 99, 104, 112], 51) := by decide +kernel
theorem dX6_count_52 : decode cX6_count 52 = .ok (.aload_n 0, 1) := by decide +kernel
theorem dX6_count_53 : decode cX6_count 53 = .ok (.getfield 12, 3) := by decide +kernel
theorem dX6_count_56 : decode cX6_count 56 = .ok (.getfield 70, 3) := by decide +kernel
theorem dX6_count_59 : decode cX6_count 59 = .ok (.ireturn, 1) := by decide +kernel
theorem dX6_count_60 : decode cX6_count 60 = .ok (.aload_n 0, 1) := by decide +kernel
theorem dX6_count_61 : decode cX6_count 61 = .ok (.getfield 26, 3) := by decide +kernel
theorem dX6_count_64 : decode cX6_count 64 = .ok (.getfield 268, 3) := by decide +kernel
theorem dX6_count_67 : decode cX6_count 67 = .ok (.ireturn, 1) := by decide +kernel
theorem dX6_count_68 : decode cX6_count 68 = .ok (.aload_n 0, 1) := by decide +kernel
theorem dX6_count_69 : decode cX6_count 69 = .ok (.getfield 12, 3) := by decide +kernel
theorem dX6_count_72 : decode cX6_count 72 = .ok (.invokevirtual 219, 3) := by decide +kernel
theorem dX6_count_75 : decode cX6_count 75 = .ok (.ireturn, 1) := by decide +kernel
theorem dX6_count_76 : decode cX6_count 76 = .ok (.aload_n 0, 1) := by decide +kernel
theorem dX6_count_77 : decode cX6_count 77 = .ok (.getfield 12, 3) := by decide +kernel
theorem dX6_count_80 : decode cX6_count 80 = .ok (.invokevirtual 269, 3) := by decide +kernel
theorem dX6_count_83 : decode cX6_count 83 = .ok (.ireturn, 1) := by decide +kernel
theorem dX6_count_84 : decode cX6_count 84 = .ok (.aload_n 0, 1) := by decide +kernel
theorem dX6_count_85 : decode cX6_count 85 = .ok (.getfield 12, 3) := by decide +kernel
theorem dX6_count_88 : decode cX6_count 88 = .ok (.getfield 98, 3) := by decide +kernel
theorem dX6_count_91 : decode cX6_count 91 = .ok (.ireturn, 1) := by decide +kernel
theorem dX6_count_92 : decode cX6_count 92 = .ok (.aload_n 0, 1) := by decide +kernel
theorem dX6_count_93 : decode cX6_count 93 = .ok (.getfield 19, 3) := by decide +kernel
theorem dX6_count_96 : decode cX6_count 96 = .ok (.getfield 104, 3) := by decide +kernel
theorem dX6_count_99 : decode cX6_count 99 = .ok (.ireturn, 1) := by decide +kernel
theorem dX6_count_100 : decode cX6_count 100 = .ok (.aload_n 0, 1) := by decide +kernel
theorem dX6_count_101 : decode cX6_count 101 = .ok (.getfield 58, 3) := by decide +kernel
theorem dX6_count_104 : decode cX6_count 104 = .ok (.ireturn, 1) := by decide +kernel
theorem dX6_count_105 : decode cX6_count 105 = .ok (.aload_n 0, 1) := by decide +kernel
theorem dX6_count_106 : decode cX6_count 106 = .ok (.getfield 12, 3) := by decide +kernel
theorem dX6_count_109 : decode cX6_count 109 = .ok (.getfield 85, 3) := by decide +kernel
theorem dX6_count_112 : decode cX6_count 112 = .ok (.ireturn, 1) := by decide +kernel
theorem dX6_count_113 : decode cX6_count 113 = .ok (.aload_n 0, 1) := by decide +kernel
theorem dX6_count_114 : decode cX6_count 114 = .ok (.getfield 62, 3) := by decide +kernel
theorem dX6_count_117 : decode cX6_count 117 = .ok (.ireturn, 1) := by decide +kernel
theorem dX6_count_118 : decode cX6_count 118 = .ok (.bipush (-2), 2) := by decide +kernel
theorem dX6_count_120 : decode cX6_count 120 = .ok (.ireturn, 1) := by decide +kernel
theorem dX6_digest_0 : decode cX6_digest 0 = .ok (.ldc2_w 272, 3) := by decide +kernel
theorem dX6_digest_3 : decode cX6_digest 3 = .ok (.lstore_n 1, 1) := by decide +kernel
theorem dX6_digest_4 : decode cX6_digest 4 = .ok (.iconst 0, 1) := by decide +kernel
theorem dX6_digest_5 : decode cX6_digest 5 = .ok (.istore_n 3, 1) := by decide +kernel
theorem dX6_digest_6 : decode cX6_digest 6 = .ok (.iload_n 3, 1) := by decide +kernel
theorem dX6_digest_7 : decode cX6_digest 7 = .ok (.bipush 8, 2) := by decide +kernel
theorem dX6_digest_9 : decode cX6_digest 9 = .ok (.if_icmp .ge 22, 3) := by decide +kernel
theorem dX6_digest_12 : decode cX6_digest 12 = .ok (.ldc2_w 274, 3) := by decide +kernel
theorem dX6_digest_15 : decode cX6_digest 15 = .ok (.lload_n 1, 1) := by decide +kernel
theorem dX6_digest_16 : decode cX6_digest 16 = .ok (.lmul, 1) := by decide +kernel
theorem dX6_digest_17 : decode cX6_digest 17 = .ok (.aload_n 0, 1) := by decide +kernel
theorem dX6_digest_18 : decode cX6_digest 18 = .ok (.iload_n 3, 1) := by decide +kernel
theorem dX6_digest_19 : decode cX6_digest 19 = .ok (.invokevirtual 276, 3) := by decide +kernel
theorem dX6_digest_22 : decode cX6_digest 22 = .ok (.i2l, 1) := by decide +kernel
theorem dX6_digest_23 : decode cX6_digest 23 = .ok (.ladd, 1) := by decide +kernel
theorem dX6_digest_24 : decode cX6_digest 24 = .ok (.lstore_n 1, 1) := by decide +kernel
theorem dX6_digest_25 : decode cX6_digest 25 = .ok (.iinc 3 1, 3) := by decide +kernel
theorem dX6_digest_28 : decode cX6_digest 28 = .ok (.goto (-22), 3) := by decide +kernel
theorem dX6_digest_31 : decode cX6_digest 31 = .ok (.ldc2_w 274, 3) := by decide +kernel
theorem dX6_digest_34 : decode cX6_digest 34 = .ok (.lload_n 1, 1) := by decide +kernel
theorem dX6_digest_35 : decode cX6_digest 35 = .ok (.lmul, 1) := by decide +kernel
theorem dX6_digest_36 : decode cX6_digest 36 = .ok (.aload_n 0, 1) := by decide +kernel
theorem dX6_digest_37 : decode cX6_digest 37 = .ok (.invokevirtual 279, 3) := by decide +kernel
theorem dX6_digest_40 : decode cX6_digest 40 = .ok (.i2l, 1) := by decide +kernel
theorem dX6_digest_41 : decode cX6_digest 41 = .ok (.ladd, 1) := by decide +kernel
theorem dX6_digest_42 : decode cX6_digest 42 = .ok (.lstore_n 1, 1) := by decide +kernel
theorem dX6_digest_43 : decode cX6_digest 43 = .ok (.aload_n 0, 1) := by decide +kernel
theorem dX6_digest_44 : decode cX6_digest 44 = .ok (.aload_n 0, 1) := by decide +kernel
theorem dX6_digest_45 : decode cX6_digest 45 = .ok (.lload_n 1, 1) := by decide +kernel
theorem dX6_digest_46 : decode cX6_digest 46 = .ok (.invokevirtual 282, 3) := by decide +kernel
theorem dX6_digest_49 : decode cX6_digest 49 = .ok (.invokevirtual 286, 3) := by decide +kernel
theorem dX6_digest_52 : decode cX6_digest 52 = .ok (.lstore_n 1, 1) := by decide +kernel
theorem dX6_digest_53 : decode cX6_digest 53 = .ok (.iconst 0, 1) := by decide +kernel
theorem dX6_digest_54 : decode cX6_digest 54 = .ok (.istore_n 3, 1) := by decide +kernel
theorem dX6_digest_55 : decode cX6_digest 55 = .ok (.iload_n 3, 1) := by decide +kernel
theorem dX6_digest_56 : decode cX6_digest 56 = .ok (.bipush 10, 2) := by decide +kernel
theorem dX6_digest_58 : decode cX6_digest 58 = .ok (.if_icmp .ge 22, 3) := by decide +kernel
theorem dX6_digest_61 : decode cX6_digest 61 = .ok (.ldc2_w 274, 3) := by decide +kernel
theorem dX6_digest_64 : decode cX6_digest 64 = .ok (.lload_n 1, 1) := by decide +kernel
theorem dX6_digest_65 : decode cX6_digest 65 = .ok (.lmul, 1) := by decide +kernel
theorem dX6_digest_66 : decode cX6_digest 66 = .ok (.aload_n 0, 1) := by decide +kernel
theorem dX6_digest_67 : decode cX6_digest 67 = .ok (.iload_n 3, 1) := by decide +kernel
theorem dX6_digest_68 : decode cX6_digest 68 = .ok (.invokevirtual 289, 3) := by decide +kernel
theorem dX6_digest_71 : decode cX6_digest 71 = .ok (.i2l, 1) := by decide +kernel
theorem dX6_digest_72 : decode cX6_digest 72 = .ok (.ladd, 1) := by decide +kernel
theorem dX6_digest_73 : decode cX6_digest 73 = .ok (.lstore_n 1, 1) := by decide +kernel
theorem dX6_digest_74 : decode cX6_digest 74 = .ok (.iinc 3 1, 3) := by decide +kernel
theorem dX6_digest_77 : decode cX6_digest 77 = .ok (.goto (-22), 3) := by decide +kernel
theorem dX6_digest_80 : decode cX6_digest 80 = .ok (.lload_n 1, 1) := by decide +kernel
theorem dX6_digest_81 : decode cX6_digest 81 = .ok (.lreturn, 1) := by decide +kernel
theorem dX6_digestOfGraves_0 : decode cX6_digestOfGraves 0 = .ok (.lload_n 1, 1) := by decide +kernel
theorem dX6_digestOfGraves_1 : decode cX6_digestOfGraves 1 = .ok (.lstore_n 3, 1) := by decide +kernel
theorem dX6_digestOfGraves_2 : decode cX6_digestOfGraves 2 = .ok (.iconst 0, 1) := by decide +kernel
theorem dX6_digestOfGraves_3 : decode cX6_digestOfGraves 3 = .ok (.istore 5, 2) := by decide +kernel
theorem dX6_digestOfGraves_5 : decode cX6_digestOfGraves 5 = .ok (.iload 5, 2) := by decide +kernel
theorem dX6_digestOfGraves_7 : decode cX6_digestOfGraves 7 = .ok (.aload_n 0, 1) := by decide +kernel
theorem dX6_digestOfGraves_8 : decode cX6_digestOfGraves 8 = .ok (.getfield 12, 3) := by decide +kernel
theorem dX6_digestOfGraves_11 : decode cX6_digestOfGraves 11 = .ok (.getfield 70, 3) := by decide +kernel
theorem dX6_digestOfGraves_14 : decode cX6_digestOfGraves 14 = .ok (.if_icmp .ge 97, 3) := by decide +kernel
theorem dX6_digestOfGraves_17 : decode cX6_digestOfGraves 17 = .ok (.ldc2_w 274, 3) := by decide +kernel
theorem dX6_digestOfGraves_20 : decode cX6_digestOfGraves 20 = .ok (.lload_n 3, 1) := by decide +kernel
theorem dX6_digestOfGraves_21 : decode cX6_digestOfGraves 21 = .ok (.lmul, 1) := by decide +kernel
theorem dX6_digestOfGraves_22 : decode cX6_digestOfGraves 22 = .ok (.aload_n 0, 1) := by decide +kernel
theorem dX6_digestOfGraves_23 : decode cX6_digestOfGraves 23 = .ok (.iload 5, 2) := by decide +kernel
theorem dX6_digestOfGraves_25 : decode cX6_digestOfGraves 25 = .ok (.invokevirtual 292, 3) := by decide +kernel
theorem dX6_digestOfGraves_28 : decode cX6_digestOfGraves 28 = .ok (.i2l, 1) := by decide +kernel
theorem dX6_digestOfGraves_29 : decode cX6_digestOfGraves 29 = .ok (.ladd, 1) := by decide +kernel
theorem dX6_digestOfGraves_30 : decode cX6_digestOfGraves 30 = .ok (.lstore_n 3, 1) := by decide +kernel
theorem dX6_digestOfGraves_31 : decode cX6_digestOfGraves 31 = .ok (.ldc2_w 274, 3) := by decide +kernel
theorem dX6_digestOfGraves_34 : decode cX6_digestOfGraves 34 = .ok (.lload_n 3, 1) := by decide +kernel
theorem dX6_digestOfGraves_35 : decode cX6_digestOfGraves 35 = .ok (.lmul, 1) := by decide +kernel
theorem dX6_digestOfGraves_36 : decode cX6_digestOfGraves 36 = .ok (.aload_n 0, 1) := by decide +kernel
theorem dX6_digestOfGraves_37 : decode cX6_digestOfGraves 37 = .ok (.iload 5, 2) := by decide +kernel
theorem dX6_digestOfGraves_39 : decode cX6_digestOfGraves 39 = .ok (.invokevirtual 295, 3) := by decide +kernel
theorem dX6_digestOfGraves_42 : decode cX6_digestOfGraves 42 = .ok (.i2l, 1) := by decide +kernel
theorem dX6_digestOfGraves_43 : decode cX6_digestOfGraves 43 = .ok (.ladd, 1) := by decide +kernel
theorem dX6_digestOfGraves_44 : decode cX6_digestOfGraves 44 = .ok (.lstore_n 3, 1) := by decide +kernel
theorem dX6_digestOfGraves_45 : decode cX6_digestOfGraves 45 = .ok (.ldc2_w 274, 3) := by decide +kernel
theorem dX6_digestOfGraves_48 : decode cX6_digestOfGraves 48 = .ok (.lload_n 3, 1) := by decide +kernel
theorem dX6_digestOfGraves_49 : decode cX6_digestOfGraves 49 = .ok (.lmul, 1) := by decide +kernel
theorem dX6_digestOfGraves_50 : decode cX6_digestOfGraves 50 = .ok (.aload_n 0, 1) := by decide +kernel
theorem dX6_digestOfGraves_51 : decode cX6_digestOfGraves 51 = .ok (.iload 5, 2) := by decide +kernel
theorem dX6_digestOfGraves_53 : decode cX6_digestOfGraves 53 = .ok (.invokevirtual 298, 3) := by decide +kernel
theorem dX6_digestOfGraves_56 : decode cX6_digestOfGraves 56 = .ok (.i2l, 1) := by decide +kernel
theorem dX6_digestOfGraves_57 : decode cX6_digestOfGraves 57 = .ok (.ladd, 1) := by decide +kernel
theorem dX6_digestOfGraves_58 : decode cX6_digestOfGraves 58 = .ok (.lstore_n 3, 1) := by decide +kernel
theorem dX6_digestOfGraves_59 : decode cX6_digestOfGraves 59 = .ok (.ldc2_w 274, 3) := by decide +kernel
theorem dX6_digestOfGraves_62 : decode cX6_digestOfGraves 62 = .ok (.lload_n 3, 1) := by decide +kernel
theorem dX6_digestOfGraves_63 : decode cX6_digestOfGraves 63 = .ok (.lmul, 1) := by decide +kernel
theorem dX6_digestOfGraves_64 : decode cX6_digestOfGraves 64 = .ok (.aload_n 0, 1) := by decide +kernel
theorem dX6_digestOfGraves_65 : decode cX6_digestOfGraves 65 = .ok (.iconst 0, 1) := by decide +kernel
theorem dX6_digestOfGraves_66 : decode cX6_digestOfGraves 66 = .ok (.iload 5, 2) := by decide +kernel
theorem dX6_digestOfGraves_68 : decode cX6_digestOfGraves 68 = .ok (.iconst 0, 1) := by decide +kernel
theorem dX6_digestOfGraves_69 : decode cX6_digestOfGraves 69 = .ok (.invokevirtual 301, 3) := by decide +kernel
theorem dX6_digestOfGraves_72 : decode cX6_digestOfGraves 72 = .ok (.i2l, 1) := by decide +kernel
theorem dX6_digestOfGraves_73 : decode cX6_digestOfGraves 73 = .ok (.ladd, 1) := by decide +kernel
theorem dX6_digestOfGraves_74 : decode cX6_digestOfGraves 74 = .ok (.lstore_n 3, 1) := by decide +kernel
theorem dX6_digestOfGraves_75 : decode cX6_digestOfGraves 75 = .ok (.ldc2_w 274, 3) := by decide +kernel
theorem dX6_digestOfGraves_78 : decode cX6_digestOfGraves 78 = .ok (.lload_n 3, 1) := by decide +kernel
theorem dX6_digestOfGraves_79 : decode cX6_digestOfGraves 79 = .ok (.lmul, 1) := by decide +kernel
theorem dX6_digestOfGraves_80 : decode cX6_digestOfGraves 80 = .ok (.aload_n 0, 1) := by decide +kernel
theorem dX6_digestOfGraves_81 : decode cX6_digestOfGraves 81 = .ok (.iconst 0, 1) := by decide +kernel
theorem dX6_digestOfGraves_82 : decode cX6_digestOfGraves 82 = .ok (.iload 5, 2) := by decide +kernel
theorem dX6_digestOfGraves_84 : decode cX6_digestOfGraves 84 = .ok (.iconst 1, 1) := by decide +kernel
theorem dX6_digestOfGraves_85 : decode cX6_digestOfGraves 85 = .ok (.invokevirtual 301, 3) := by decide +kernel
theorem dX6_digestOfGraves_88 : decode cX6_digestOfGraves 88 = .ok (.i2l, 1) := by decide +kernel
theorem dX6_digestOfGraves_89 : decode cX6_digestOfGraves 89 = .ok (.ladd, 1) := by decide +kernel
theorem dX6_digestOfGraves_90 : decode cX6_digestOfGraves 90 = .ok (.lstore_n 3, 1) := by decide +kernel
theorem dX6_digestOfGraves_91 : decode cX6_digestOfGraves 91 = .ok (.ldc2_w 274, 3) := by decide +kernel
theorem dX6_digestOfGraves_94 : decode cX6_digestOfGraves 94 = .ok (.lload_n 3, 1) := by decide +kernel
theorem dX6_digestOfGraves_95 : decode cX6_digestOfGraves 95 = .ok (.lmul, 1) := by decide +kernel
theorem dX6_digestOfGraves_96 : decode cX6_digestOfGraves 96 = .ok (.aload_n 0, 1) := by decide +kernel
theorem dX6_digestOfGraves_97 : decode cX6_digestOfGraves 97 = .ok (.iload 5, 2) := by decide +kernel
theorem dX6_digestOfGraves_99 : decode cX6_digestOfGraves 99 = .ok (.invokevirtual 305, 3) := by decide +kernel
theorem dX6_digestOfGraves_102 : decode cX6_digestOfGraves 102 = .ok (.i2l, 1) := by decide +kernel
theorem dX6_digestOfGraves_103 : decode cX6_digestOfGraves 103 = .ok (.ladd, 1) := by decide +kernel
theorem dX6_digestOfGraves_104 : decode cX6_digestOfGraves 104 = .ok (.lstore_n 3, 1) := by decide +kernel
theorem dX6_digestOfGraves_105 : decode cX6_digestOfGraves 105 = .ok (.iinc 5 1, 3) := by decide +kernel
theorem dX6_digestOfGraves_108 : decode cX6_digestOfGraves 108 = .ok (.goto (-103), 3) := by decide +kernel
theorem dX6_digestOfGraves_111 : decode cX6_digestOfGraves 111 = .ok (.lload_n 3, 1) := by decide +kernel
theorem dX6_digestOfGraves_112 : decode cX6_digestOfGraves 112 = .ok (.lreturn, 1) := by decide +kernel
theorem dX6_digestOfOrders_0 : decode cX6_digestOfOrders 0 = .ok (.lload_n 1, 1) := by decide +kernel
theorem dX6_digestOfOrders_1 : decode cX6_digestOfOrders 1 = .ok (.lstore_n 3, 1) := by decide +kernel
theorem dX6_digestOfOrders_2 : decode cX6_digestOfOrders 2 = .ok (.iconst 0, 1) := by decide +kernel
theorem dX6_digestOfOrders_3 : decode cX6_digestOfOrders 3 = .ok (.istore 5, 2) := by decide +kernel
theorem dX6_digestOfOrders_5 : decode cX6_digestOfOrders 5 = .ok (.iload 5, 2) := by decide +kernel
theorem dX6_digestOfOrders_7 : decode cX6_digestOfOrders 7 = .ok (.iconst 3, 1) := by decide +kernel
theorem dX6_digestOfOrders_8 : decode cX6_digestOfOrders 8 = .ok (.if_icmp .ge 23, 3) := by decide +kernel
theorem dX6_digestOfOrders_11 : decode cX6_digestOfOrders 11 = .ok (.ldc2_w 274, 3) := by decide +kernel
theorem dX6_digestOfOrders_14 : decode cX6_digestOfOrders 14 = .ok (.lload_n 3, 1) := by decide +kernel
theorem dX6_digestOfOrders_15 : decode cX6_digestOfOrders 15 = .ok (.lmul, 1) := by decide +kernel
theorem dX6_digestOfOrders_16 : decode cX6_digestOfOrders 16 = .ok (.aload_n 0, 1) := by decide +kernel
theorem dX6_digestOfOrders_17 : decode cX6_digestOfOrders 17 = .ok (.iload 5, 2) := by decide +kernel
theorem dX6_digestOfOrders_19 : decode cX6_digestOfOrders 19 = .ok (.invokevirtual 308, 3) := by decide +kernel
theorem dX6_digestOfOrders_22 : decode cX6_digestOfOrders 22 = .ok (.i2l, 1) := by decide +kernel
theorem dX6_digestOfOrders_23 : decode cX6_digestOfOrders 23 = .ok (.ladd, 1) := by decide +kernel
theorem dX6_digestOfOrders_24 : decode cX6_digestOfOrders 24 = .ok (.lstore_n 3, 1) := by decide +kernel
theorem dX6_digestOfOrders_25 : decode cX6_digestOfOrders 25 = .ok (.iinc 5 1, 3) := by decide +kernel
theorem dX6_digestOfOrders_28 : decode cX6_digestOfOrders 28 = .ok (.goto (-23), 3) := by decide +kernel
theorem dX6_digestOfOrders_31 : decode cX6_digestOfOrders 31 = .ok (.ldc2_w 274, 3) := by decide +kernel
theorem dX6_digestOfOrders_34 : decode cX6_digestOfOrders 34 = .ok (.lload_n 3, 1) := by decide +kernel
theorem dX6_digestOfOrders_35 : decode cX6_digestOfOrders 35 = .ok (.lmul, 1) := by decide +kernel
theorem dX6_digestOfOrders_36 : decode cX6_digestOfOrders 36 = .ok (.aload_n 0, 1) := by decide +kernel
theorem dX6_digestOfOrders_37 : decode cX6_digestOfOrders 37 = .ok (.iconst 0, 1) := by decide +kernel
theorem dX6_digestOfOrders_38 : decode cX6_digestOfOrders 38 = .ok (.iconst 1, 1) := by decide +kernel
theorem dX6_digestOfOrders_39 : decode cX6_digestOfOrders 39 = .ok (.invokevirtual 311, 3) := by decide +kernel
theorem dX6_digestOfOrders_42 : decode cX6_digestOfOrders 42 = .ok (.i2l, 1) := by decide +kernel
theorem dX6_digestOfOrders_43 : decode cX6_digestOfOrders 43 = .ok (.ladd, 1) := by decide +kernel
theorem dX6_digestOfOrders_44 : decode cX6_digestOfOrders 44 = .ok (.lstore_n 3, 1) := by decide +kernel
theorem dX6_digestOfOrders_45 : decode cX6_digestOfOrders 45 = .ok (.ldc2_w 274, 3) := by decide +kernel
theorem dX6_digestOfOrders_48 : decode cX6_digestOfOrders 48 = .ok (.lload_n 3, 1) := by decide +kernel
theorem dX6_digestOfOrders_49 : decode cX6_digestOfOrders 49 = .ok (.lmul, 1) := by decide +kernel
theorem dX6_digestOfOrders_50 : decode cX6_digestOfOrders 50 = .ok (.aload_n 0, 1) := by decide +kernel
theorem dX6_digestOfOrders_51 : decode cX6_digestOfOrders 51 = .ok (.iconst 0, 1) := by decide +kernel
theorem dX6_digestOfOrders_52 : decode cX6_digestOfOrders 52 = .ok (.invokevirtual 314, 3) := by decide +kernel
theorem dX6_digestOfOrders_55 : decode cX6_digestOfOrders 55 = .ok (.ladd, 1) := by decide +kernel
theorem dX6_digestOfOrders_56 : decode cX6_digestOfOrders 56 = .ok (.lstore_n 3, 1) := by decide +kernel
theorem dX6_digestOfOrders_57 : decode cX6_digestOfOrders 57 = .ok (.ldc2_w 274, 3) := by decide +kernel
theorem dX6_digestOfOrders_60 : decode cX6_digestOfOrders 60 = .ok (.lload_n 3, 1) := by decide +kernel
theorem dX6_digestOfOrders_61 : decode cX6_digestOfOrders 61 = .ok (.lmul, 1) := by decide +kernel
theorem dX6_digestOfOrders_62 : decode cX6_digestOfOrders 62 = .ok (.aload_n 0, 1) := by decide +kernel
theorem dX6_digestOfOrders_63 : decode cX6_digestOfOrders 63 = .ok (.iconst 1, 1) := by decide +kernel
theorem dX6_digestOfOrders_64 : decode cX6_digestOfOrders 64 = .ok (.invokevirtual 314, 3) := by decide +kernel
theorem dX6_digestOfOrders_67 : decode cX6_digestOfOrders 67 = .ok (.ladd, 1) := by decide +kernel
theorem dX6_digestOfOrders_68 : decode cX6_digestOfOrders 68 = .ok (.lstore_n 3, 1) := by decide +kernel
theorem dX6_digestOfOrders_69 : decode cX6_digestOfOrders 69 = .ok (.ldc2_w 274, 3) := by decide +kernel
theorem dX6_digestOfOrders_72 : decode cX6_digestOfOrders 72 = .ok (.lload_n 3, 1) := by decide +kernel
theorem dX6_digestOfOrders_73 : decode cX6_digestOfOrders 73 = .ok (.lmul, 1) := by decide +kernel
theorem dX6_digestOfOrders_74 : decode cX6_digestOfOrders 74 = .ok (.aload_n 0, 1) := by decide +kernel
theorem dX6_digestOfOrders_75 : decode cX6_digestOfOrders 75 = .ok (.invokevirtual 317, 3) := by decide +kernel
theorem dX6_digestOfOrders_78 : decode cX6_digestOfOrders 78 = .ok (.i2l, 1) := by decide +kernel
theorem dX6_digestOfOrders_79 : decode cX6_digestOfOrders 79 = .ok (.ladd, 1) := by decide +kernel
theorem dX6_digestOfOrders_80 : decode cX6_digestOfOrders 80 = .ok (.lstore_n 3, 1) := by decide +kernel
theorem dX6_digestOfOrders_81 : decode cX6_digestOfOrders 81 = .ok (.ldc2_w 274, 3) := by decide +kernel
theorem dX6_digestOfOrders_84 : decode cX6_digestOfOrders 84 = .ok (.lload_n 3, 1) := by decide +kernel
theorem dX6_digestOfOrders_85 : decode cX6_digestOfOrders 85 = .ok (.lmul, 1) := by decide +kernel
theorem dX6_digestOfOrders_86 : decode cX6_digestOfOrders 86 = .ok (.aload_n 0, 1) := by decide +kernel
theorem dX6_digestOfOrders_87 : decode cX6_digestOfOrders 87 = .ok (.iconst 2, 1) := by decide +kernel
theorem dX6_digestOfOrders_88 : decode cX6_digestOfOrders 88 = .ok (.iconst (-1), 1) := by decide +kernel
theorem dX6_digestOfOrders_89 : decode cX6_digestOfOrders 89 = .ok (.invokevirtual 320, 3) := by decide +kernel
theorem dX6_digestOfOrders_92 : decode cX6_digestOfOrders 92 = .ok (.i2l, 1) := by decide +kernel
theorem dX6_digestOfOrders_93 : decode cX6_digestOfOrders 93 = .ok (.ladd, 1) := by decide +kernel
theorem dX6_digestOfOrders_94 : decode cX6_digestOfOrders 94 = .ok (.lreturn, 1) := by decide +kernel
theorem dX6_within_0 : decode cX6_within 0 = .ok (.iload_n 0, 1) := by decide +kernel
theorem dX6_within_1 : decode cX6_within 1 = .ok (.iload_n 1, 1) := by decide +kernel
theorem dX6_within_2 : decode cX6_within 2 = .ok (.if_icmp .lt 12, 3) := by decide +kernel
theorem dX6_within_5 : decode cX6_within 5 = .ok (.iload_n 0, 1) := by decide +kernel
theorem dX6_within_6 : decode cX6_within 6 = .ok (.iload_n 2, 1) := by decide +kernel
theorem dX6_within_7 : decode cX6_within 7 = .ok (.if_icmp .gt 7, 3) := by decide +kernel
theorem dX6_within_10 : decode cX6_within 10 = .ok (.iconst 1, 1) := by decide +kernel
theorem dX6_within_11 : decode cX6_within 11 = .ok (.goto 4, 3) := by decide +kernel
theorem dX6_within_14 : decode cX6_within 14 = .ok (.iconst 0, 1) := by decide +kernel
theorem dX6_within_15 : decode cX6_within 15 = .ok (.ireturn, 1) := by decide +kernel
theorem dX6_bit_0 : decode cX6_bit 0 = .ok (.iload_n 0, 1) := by decide +kernel
theorem dX6_bit_1 : decode cX6_bit 1 = .ok (.ifCond .eq 7, 3) := by decide +kernel
theorem dX6_bit_4 : decode cX6_bit 4 = .ok (.iconst 1, 1) := by decide +kernel
theorem dX6_bit_5 : decode cX6_bit 5 = .ok (.goto 4, 3) := by decide +kernel
theorem dX6_bit_8 : decode cX6_bit 8 = .ok (.iconst 0, 1) := by decide +kernel
theorem dX6_bit_9 : decode cX6_bit 9 = .ok (.ireturn, 1) := by decide +kernel
theorem dX6_longRefusal_0 : decode cX6_longRefusal 0 = .ok (.ldc2_w 323, 3) := by decide +kernel
theorem dX6_longRefusal_3 : decode cX6_longRefusal 3 = .ok (.iload_n 0, 1) := by decide +kernel
theorem dX6_longRefusal_4 : decode cX6_longRefusal 4 = .ok (.i2l, 1) := by decide +kernel
theorem dX6_longRefusal_5 : decode cX6_longRefusal 5 = .ok (.lsub, 1) := by decide +kernel
theorem dX6_longRefusal_6 : decode cX6_longRefusal 6 = .ok (.lreturn, 1) := by decide +kernel
theorem dX6_inLowestTerms_0 : decode cX6_inLowestTerms 0 = .ok (.iconst 1, 1) := by decide +kernel
theorem dX6_inLowestTerms_1 : decode cX6_inLowestTerms 1 = .ok (.iload_n 0, 1) := by decide +kernel
theorem dX6_inLowestTerms_2 : decode cX6_inLowestTerms 2 = .ok (.iload_n 1, 1) := by decide +kernel
theorem dX6_inLowestTerms_3 : decode cX6_inLowestTerms 3 = .ok (.invokestatic 325, 3) := by decide +kernel
theorem dX6_inLowestTerms_6 : decode cX6_inLowestTerms 6 = .ok (.invokestatic 328, 3) := by decide +kernel
theorem dX6_inLowestTerms_9 : decode cX6_inLowestTerms 9 = .ok (.istore_n 3, 1) := by decide +kernel
theorem dX6_inLowestTerms_10 : decode cX6_inLowestTerms 10 = .ok (.iload_n 2, 1) := by decide +kernel
theorem dX6_inLowestTerms_11 : decode cX6_inLowestTerms 11 = .ok (.ifCond .ne 7, 3) := by decide +kernel
theorem dX6_inLowestTerms_14 : decode cX6_inLowestTerms 14 = .ok (.iload_n 0, 1) := by decide +kernel
theorem dX6_inLowestTerms_15 : decode cX6_inLowestTerms 15 = .ok (.goto 4, 3) := by decide +kernel
theorem dX6_inLowestTerms_18 : decode cX6_inLowestTerms 18 = .ok (.iload_n 1, 1) := by decide +kernel
theorem dX6_inLowestTerms_19 : decode cX6_inLowestTerms 19 = .ok (.iload_n 3, 1) := by decide +kernel
theorem dX6_inLowestTerms_20 : decode cX6_inLowestTerms 20 = .ok (.idiv, 1) := by decide +kernel
theorem dX6_inLowestTerms_21 : decode cX6_inLowestTerms 21 = .ok (.i2l, 1) := by decide +kernel
theorem dX6_inLowestTerms_22 : decode cX6_inLowestTerms 22 = .ok (.lreturn, 1) := by decide +kernel
theorem dX6_commonDivisor_0 : decode cX6_commonDivisor 0 = .ok (.iload_n 0, 1) := by decide +kernel
theorem dX6_commonDivisor_1 : decode cX6_commonDivisor 1 = .ok (.istore_n 2, 1) := by decide +kernel
theorem dX6_commonDivisor_2 : decode cX6_commonDivisor 2 = .ok (.iload_n 1, 1) := by decide +kernel
theorem dX6_commonDivisor_3 : decode cX6_commonDivisor 3 = .ok (.istore_n 3, 1) := by decide +kernel
theorem dX6_commonDivisor_4 : decode cX6_commonDivisor 4 = .ok (.iconst 0, 1) := by decide +kernel
theorem dX6_commonDivisor_5 : decode cX6_commonDivisor 5 = .ok (.istore 4, 2) := by decide +kernel
theorem dX6_commonDivisor_7 : decode cX6_commonDivisor 7 = .ok (.iload 4, 2) := by decide +kernel
theorem dX6_commonDivisor_9 : decode cX6_commonDivisor 9 = .ok (.bipush 50, 2) := by decide +kernel
theorem dX6_commonDivisor_11 : decode cX6_commonDivisor 11 = .ok (.if_icmp .ge 23, 3) := by decide +kernel
theorem dX6_commonDivisor_14 : decode cX6_commonDivisor 14 = .ok (.iload_n 3, 1) := by decide +kernel
theorem dX6_commonDivisor_15 : decode cX6_commonDivisor 15 = .ok (.ifCond .eq 19, 3) := by decide +kernel
theorem dX6_commonDivisor_18 : decode cX6_commonDivisor 18 = .ok (.iload_n 2, 1) := by decide +kernel
theorem dX6_commonDivisor_19 : decode cX6_commonDivisor 19 = .ok (.iload_n 3, 1) := by decide +kernel
theorem dX6_commonDivisor_20 : decode cX6_commonDivisor 20 = .ok (.irem, 1) := by decide +kernel
theorem dX6_commonDivisor_21 : decode cX6_commonDivisor 21 = .ok (.istore 5, 2) := by decide +kernel
theorem dX6_commonDivisor_23 : decode cX6_commonDivisor 23 = .ok (.iload_n 3, 1) := by decide +kernel
theorem dX6_commonDivisor_24 : decode cX6_commonDivisor 24 = .ok (.istore_n 2, 1) := by decide +kernel
theorem dX6_commonDivisor_25 : decode cX6_commonDivisor 25 = .ok (.iload 5, 2) := by decide +kernel
theorem dX6_commonDivisor_27 : decode cX6_commonDivisor 27 = .ok (.istore_n 3, 1) := by decide +kernel
theorem dX6_commonDivisor_28 : decode cX6_commonDivisor 28 = .ok (.iinc 4 1, 3) := by decide +kernel
theorem dX6_commonDivisor_31 : decode cX6_commonDivisor 31 = .ok (.goto (-24), 3) := by decide +kernel
theorem dX6_commonDivisor_34 : decode cX6_commonDivisor 34 = .ok (.iload_n 2, 1) := by decide +kernel
theorem dX6_commonDivisor_35 : decode cX6_commonDivisor 35 = .ok (.ireturn, 1) := by decide +kernel
theorem dX6_isGrave_0 : decode cX6_isGrave 0 = .ok (.iload_n 1, 1) := by decide +kernel
theorem dX6_isGrave_1 : decode cX6_isGrave 1 = .ok (.iconst 0, 1) := by decide +kernel
theorem dX6_isGrave_2 : decode cX6_isGrave 2 = .ok (.aload_n 0, 1) := by decide +kernel
theorem dX6_isGrave_3 : decode cX6_isGrave 3 = .ok (.getfield 12, 3) := by decide +kernel
theorem dX6_isGrave_6 : decode cX6_isGrave 6 = .ok (.getfield 70, 3) := by decide +kernel
theorem dX6_isGrave_9 : decode cX6_isGrave 9 = .ok (.iconst 1, 1) := by decide +kernel
theorem dX6_isGrave_10 : decode cX6_isGrave 10 = .ok (.isub, 1) := by decide +kernel
theorem dX6_isGrave_11 : decode cX6_isGrave 11 = .ok (.invokestatic 66, 3) := by decide +kernel
theorem dX6_isGrave_14 : decode cX6_isGrave 14 = .ok (.ireturn, 1) := by decide +kernel
theorem dX6_isPair_0 : decode cX6_isPair 0 = .ok (.aload_n 0, 1) := by decide +kernel
theorem dX6_isPair_1 : decode cX6_isPair 1 = .ok (.iload_n 1, 1) := by decide +kernel
theorem dX6_isPair_2 : decode cX6_isPair 2 = .ok (.invokevirtual 81, 3) := by decide +kernel
theorem dX6_isPair_5 : decode cX6_isPair 5 = .ok (.ifCond .eq 20, 3) := by decide +kernel
theorem dX6_isPair_8 : decode cX6_isPair 8 = .ok (.aload_n 0, 1) := by decide +kernel
theorem dX6_isPair_9 : decode cX6_isPair 9 = .ok (.iload_n 2, 1) := by decide +kernel
theorem dX6_isPair_10 : decode cX6_isPair 10 = .ok (.invokevirtual 81, 3) := by decide +kernel
theorem dX6_isPair_13 : decode cX6_isPair 13 = .ok (.ifCond .eq 12, 3) := by decide +kernel
theorem dX6_isPair_16 : decode cX6_isPair 16 = .ok (.iload_n 1, 1) := by decide +kernel
theorem dX6_isPair_17 : decode cX6_isPair 17 = .ok (.iload_n 2, 1) := by decide +kernel
theorem dX6_isPair_18 : decode cX6_isPair 18 = .ok (.if_icmp .eq 7, 3) := by decide +kernel
theorem dX6_isPair_21 : decode cX6_isPair 21 = .ok (.iconst 1, 1) := by decide +kernel
theorem dX6_isPair_22 : decode cX6_isPair 22 = .ok (.goto 4, 3) := by decide +kernel
theorem dX6_isPair_25 : decode cX6_isPair 25 = .ok (.iconst 0, 1) := by decide +kernel
theorem dX6_isPair_26 : decode cX6_isPair 26 = .ok (.ireturn, 1) := by decide +kernel
theorem dX6_isKind_0 : decode cX6_isKind 0 = .ok (.iload_n 0, 1) := by decide +kernel
theorem dX6_isKind_1 : decode cX6_isKind 1 = .ok (.iconst 0, 1) := by decide +kernel
theorem dX6_isKind_2 : decode cX6_isKind 2 = .ok (.bipush 9, 2) := by decide +kernel
theorem dX6_isKind_4 : decode cX6_isKind 4 = .ok (.invokestatic 66, 3) := by decide +kernel
theorem dX6_isKind_7 : decode cX6_isKind 7 = .ok (.ireturn, 1) := by decide +kernel
theorem dX6_isSheet_0 : decode cX6_isSheet 0 = .ok (.iload_n 0, 1) := by decide +kernel
theorem dX6_isSheet_1 : decode cX6_isSheet 1 = .ok (.iconst 0, 1) := by decide +kernel
theorem dX6_isSheet_2 : decode cX6_isSheet 2 = .ok (.iconst 3, 1) := by decide +kernel
theorem dX6_isSheet_3 : decode cX6_isSheet 3 = .ok (.invokestatic 66, 3) := by decide +kernel
theorem dX6_isSheet_6 : decode cX6_isSheet 6 = .ok (.ireturn, 1) := by decide +kernel
theorem dX6_canTellAt_0 : decode cX6_canTellAt 0 = .ok (.iload_n 1, 1) := by decide +kernel
theorem dX6_canTellAt_1 : decode cX6_canTellAt 1 = .ok (.aload_n 0, 1) := by decide +kernel
theorem dX6_canTellAt_2 : decode cX6_canTellAt 2 = .ok (.getfield 26, 3) := by decide +kernel
theorem dX6_canTellAt_5 : decode cX6_canTellAt 5 = .ok (.invokevirtual 331, 3) := by decide +kernel
theorem dX6_canTellAt_8 : decode cX6_canTellAt 8 = .ok (.sipush 999, 3) := by decide +kernel
theorem dX6_canTellAt_11 : decode cX6_canTellAt 11 = .ok (.invokestatic 66, 3) := by decide +kernel
theorem dX6_canTellAt_14 : decode cX6_canTellAt 14 = .ok (.ireturn, 1) := by decide +kernel
theorem dX6_finding_0 : decode cX6_finding 0 = .ok (.aload_n 0, 1) := by decide +kernel
theorem dX6_finding_1 : decode cX6_finding 1 = .ok (.iload_n 1, 1) := by decide +kernel
theorem dX6_finding_2 : decode cX6_finding 2 = .ok (.putfield 62, 3) := by decide +kernel
theorem dX6_finding_5 : decode cX6_finding 5 = .ok (.bipush (-10), 2) := by decide +kernel
theorem dX6_finding_7 : decode cX6_finding 7 = .ok (.iload_n 1, 1) := by decide +kernel
theorem dX6_finding_8 : decode cX6_finding 8 = .ok (.isub, 1) := by decide +kernel
theorem dX6_finding_9 : decode cX6_finding 9 = .ok (.ireturn, 1) := by decide +kernel
theorem dX6_findsChanged_0 : decode cX6_findsChanged 0 = .ok (.aload_n 0, 1) := by decide +kernel
theorem dX6_findsChanged_1 : decode cX6_findsChanged 1 = .ok (.getfield 26, 3) := by decide +kernel
theorem dX6_findsChanged_4 : decode cX6_findsChanged 4 = .ok (.aload_n 0, 1) := by decide +kernel
theorem dX6_findsChanged_5 : decode cX6_findsChanged 5 = .ok (.getfield 12, 3) := by decide +kernel
theorem dX6_findsChanged_8 : decode cX6_findsChanged 8 = .ok (.getfield 136, 3) := by decide +kernel
theorem dX6_findsChanged_11 : decode cX6_findsChanged 11 = .ok (.aload_n 0, 1) := by decide +kernel
theorem dX6_findsChanged_12 : decode cX6_findsChanged 12 = .ok (.getfield 58, 3) := by decide +kernel
theorem dX6_findsChanged_15 : decode cX6_findsChanged 15 = .ok (.invokevirtual 334, 3) := by decide +kernel
theorem dX6_findsChanged_18 : decode cX6_findsChanged 18 = .ok (.aload_n 0, 1) := by decide +kernel
theorem dX6_findsChanged_19 : decode cX6_findsChanged 19 = .ok (.getfield 35, 3) := by decide +kernel
theorem dX6_findsChanged_22 : decode cX6_findsChanged 22 = .ok (.iconst 1, 1) := by decide +kernel
theorem dX6_findsChanged_23 : decode cX6_findsChanged 23 = .ok (.putfield 73, 3) := by decide +kernel
theorem dX6_findsChanged_26 : decode cX6_findsChanged 26 = .ok (.return_, 1) := by decide +kernel
theorem dX6_tellLine_0 : decode cX6_tellLine 0 = .ok (.iconst 0, 1) := by decide +kernel
theorem dX6_tellLine_1 : decode cX6_tellLine 1 = .ok (.istore_n 2, 1) := by decide +kernel
theorem dX6_tellLine_2 : decode cX6_tellLine 2 = .ok (.iconst 0, 1) := by decide +kernel
theorem dX6_tellLine_3 : decode cX6_tellLine 3 = .ok (.istore_n 3, 1) := by decide +kernel
theorem dX6_tellLine_4 : decode cX6_tellLine 4 = .ok (.iconst 0, 1) := by decide +kernel
theorem dX6_tellLine_5 : decode cX6_tellLine 5 = .ok (.istore 4, 2) := by decide +kernel
theorem dX6_tellLine_7 : decode cX6_tellLine 7 = .ok (.iconst 0, 1) := by decide +kernel
theorem dX6_tellLine_8 : decode cX6_tellLine 8 = .ok (.istore 5, 2) := by decide +kernel
theorem dX6_tellLine_10 : decode cX6_tellLine 10 = .ok (.iload 5, 2) := by decide +kernel
theorem dX6_tellLine_12 : decode cX6_tellLine 12 = .ok (.aload_n 0, 1) := by decide +kernel
theorem dX6_tellLine_13 : decode cX6_tellLine 13 = .ok (.getfield 19, 3) := by decide +kernel
theorem dX6_tellLine_16 : decode cX6_tellLine 16 = .ok (.getfield 104, 3) := by decide +kernel
theorem dX6_tellLine_19 : decode cX6_tellLine 19 = .ok (.if_icmp .ge 85, 3) := by decide +kernel
theorem dX6_tellLine_22 : decode cX6_tellLine 22 = .ok (.aload_n 0, 1) := by decide +kernel
theorem dX6_tellLine_23 : decode cX6_tellLine 23 = .ok (.getfield 19, 3) := by decide +kernel
theorem dX6_tellLine_26 : decode cX6_tellLine 26 = .ok (.getfield 107, 3) := by decide +kernel
theorem dX6_tellLine_29 : decode cX6_tellLine 29 = .ok (.iload 5, 2) := by decide +kernel
theorem dX6_tellLine_31 : decode cX6_tellLine 31 = .ok (.iaload, 1) := by decide +kernel
theorem dX6_tellLine_32 : decode cX6_tellLine 32 = .ok (.istore 6, 2) := by decide +kernel
theorem dX6_tellLine_34 : decode cX6_tellLine 34 = .ok (.iload_n 2, 1) := by decide +kernel
theorem dX6_tellLine_35 : decode cX6_tellLine 35 = .ok (.iload 6, 2) := by decide +kernel
theorem dX6_tellLine_37 : decode cX6_tellLine 37 = .ok (.aload_n 0, 1) := by decide +kernel
theorem dX6_tellLine_38 : decode cX6_tellLine 38 = .ok (.getfield 12, 3) := by decide +kernel
theorem dX6_tellLine_41 : decode cX6_tellLine 41 = .ok (.getfield 70, 3) := by decide +kernel
theorem dX6_tellLine_44 : decode cX6_tellLine 44 = .ok (.invokestatic 338, 3) := by decide +kernel
theorem dX6_tellLine_47 : decode cX6_tellLine 47 = .ok (.istore 7, 2) := by decide +kernel
theorem dX6_tellLine_49 : decode cX6_tellLine 49 = .ok (.iload_n 2, 1) := by decide +kernel
theorem dX6_tellLine_50 : decode cX6_tellLine 50 = .ok (.ifCond .ne 9, 3) := by decide +kernel
theorem dX6_tellLine_53 : decode cX6_tellLine 53 = .ok (.iload 6, 2) := by decide +kernel
theorem dX6_tellLine_55 : decode cX6_tellLine 55 = .ok (.bipush 48, 2) := by decide +kernel
theorem dX6_tellLine_57 : decode cX6_tellLine 57 = .ok (.isub, 1) := by decide +kernel
theorem dX6_tellLine_58 : decode cX6_tellLine 58 = .ok (.istore_n 3, 1) := by decide +kernel
theorem dX6_tellLine_59 : decode cX6_tellLine 59 = .ok (.iload 7, 2) := by decide +kernel
theorem dX6_tellLine_61 : decode cX6_tellLine 61 = .ok (.iconst 4, 1) := by decide +kernel
theorem dX6_tellLine_62 : decode cX6_tellLine 62 = .ok (.if_icmp .ne 33, 3) := by decide +kernel
theorem dX6_tellLine_65 : decode cX6_tellLine 65 = .ok (.aload_n 0, 1) := by decide +kernel
theorem dX6_tellLine_66 : decode cX6_tellLine 66 = .ok (.getfield 26, 3) := by decide +kernel
theorem dX6_tellLine_69 : decode cX6_tellLine 69 = .ok (.iload_n 1, 1) := by decide +kernel
theorem dX6_tellLine_70 : decode cX6_tellLine 70 = .ok (.iload_n 3, 1) := by decide +kernel
theorem dX6_tellLine_71 : decode cX6_tellLine 71 = .ok (.iload 6, 2) := by decide +kernel
theorem dX6_tellLine_73 : decode cX6_tellLine 73 = .ok (.bipush 48, 2) := by decide +kernel
theorem dX6_tellLine_75 : decode cX6_tellLine 75 = .ok (.isub, 1) := by decide +kernel
theorem dX6_tellLine_76 : decode cX6_tellLine 76 = .ok (.iload_n 2, 1) := by decide +kernel
theorem dX6_tellLine_77 : decode cX6_tellLine 77 = .ok (.iconst 2, 1) := by decide +kernel
theorem dX6_tellLine_78 : decode cX6_tellLine 78 = .ok (.if_icmp .ne 7, 3) := by decide +kernel
theorem dX6_tellLine_81 : decode cX6_tellLine 81 = .ok (.iconst 1, 1) := by decide +kernel
theorem dX6_tellLine_82 : decode cX6_tellLine 82 = .ok (.goto 4, 3) := by decide +kernel
theorem dX6_tellLine_85 : decode cX6_tellLine 85 = .ok (.iconst 0, 1) := by decide +kernel
theorem dX6_tellLine_86 : decode cX6_tellLine 86 = .ok (.invokevirtual 341, 3) := by decide +kernel
theorem dX6_tellLine_89 : decode cX6_tellLine 89 = .ok (.ifCond .eq 6, 3) := by decide +kernel
theorem dX6_tellLine_92 : decode cX6_tellLine 92 = .ok (.iinc 4 1, 3) := by decide +kernel
theorem dX6_tellLine_95 : decode cX6_tellLine 95 = .ok (.iload 7, 2) := by decide +kernel
theorem dX6_tellLine_97 : decode cX6_tellLine 97 = .ok (.istore_n 2, 1) := by decide +kernel
theorem dX6_tellLine_98 : decode cX6_tellLine 98 = .ok (.iinc 5 1, 3) := by decide +kernel
theorem dX6_tellLine_101 : decode cX6_tellLine 101 = .ok (.goto (-91), 3) := by decide +kernel
theorem dX6_tellLine_104 : decode cX6_tellLine 104 = .ok (.iload 4, 2) := by decide +kernel
theorem dX6_tellLine_106 : decode cX6_tellLine 106 = .ok (.ireturn, 1) := by decide +kernel
theorem dX6_tellSheet_0 : decode cX6_tellSheet 0 = .ok (.iconst 0, 1) := by decide +kernel
theorem dX6_tellSheet_1 : decode cX6_tellSheet 1 = .ok (.istore 4, 2) := by decide +kernel
theorem dX6_tellSheet_3 : decode cX6_tellSheet 3 = .ok (.iconst 0, 1) := by decide +kernel
theorem dX6_tellSheet_4 : decode cX6_tellSheet 4 = .ok (.istore 5, 2) := by decide +kernel
theorem dX6_tellSheet_6 : decode cX6_tellSheet 6 = .ok (.iload 5, 2) := by decide +kernel
theorem dX6_tellSheet_8 : decode cX6_tellSheet 8 = .ok (.bipush 10, 2) := by decide +kernel
theorem dX6_tellSheet_10 : decode cX6_tellSheet 10 = .ok (.if_icmp .ge 68, 3) := by decide +kernel
theorem dX6_tellSheet_13 : decode cX6_tellSheet 13 = .ok (.iload 5, 2) := by decide +kernel
theorem dX6_tellSheet_15 : decode cX6_tellSheet 15 = .ok (.aload_n 1, 1) := by decide +kernel
theorem dX6_tellSheet_16 : decode cX6_tellSheet 16 = .ok (.getfield 142, 3) := by decide +kernel
theorem dX6_tellSheet_19 : decode cX6_tellSheet 19 = .ok (.if_icmp .ge 59, 3) := by decide +kernel
theorem dX6_tellSheet_22 : decode cX6_tellSheet 22 = .ok (.aload_n 1, 1) := by decide +kernel
theorem dX6_tellSheet_23 : decode cX6_tellSheet 23 = .ok (.getfield 139, 3) := by decide +kernel
theorem dX6_tellSheet_26 : decode cX6_tellSheet 26 = .ok (.iload 5, 2) := by decide +kernel
theorem dX6_tellSheet_28 : decode cX6_tellSheet 28 = .ok (.iaload, 1) := by decide +kernel
theorem dX6_tellSheet_29 : decode cX6_tellSheet 29 = .ok (.istore 6, 2) := by decide +kernel
theorem dX6_tellSheet_31 : decode cX6_tellSheet 31 = .ok (.iload 6, 2) := by decide +kernel
theorem dX6_tellSheet_33 : decode cX6_tellSheet 33 = .ok (.iconst 0, 1) := by decide +kernel
theorem dX6_tellSheet_34 : decode cX6_tellSheet 34 = .ok (.iconst 1, 1) := by decide +kernel
theorem dX6_tellSheet_35 : decode cX6_tellSheet 35 = .ok (.invokestatic 66, 3) := by decide +kernel
theorem dX6_tellSheet_38 : decode cX6_tellSheet 38 = .ok (.ifCond .eq 40, 3) := by decide +kernel
theorem dX6_tellSheet_41 : decode cX6_tellSheet 41 = .ok (.aload_n 0, 1) := by decide +kernel
theorem dX6_tellSheet_42 : decode cX6_tellSheet 42 = .ok (.getfield 26, 3) := by decide +kernel
theorem dX6_tellSheet_45 : decode cX6_tellSheet 45 = .ok (.iload_n 3, 1) := by decide +kernel
theorem dX6_tellSheet_46 : decode cX6_tellSheet 46 = .ok (.iload_n 2, 1) := by decide +kernel
theorem dX6_tellSheet_47 : decode cX6_tellSheet 47 = .ok (.iload 5, 2) := by decide +kernel
theorem dX6_tellSheet_49 : decode cX6_tellSheet 49 = .ok (.iload 6, 2) := by decide +kernel
theorem dX6_tellSheet_51 : decode cX6_tellSheet 51 = .ok (.iconst 1, 1) := by decide +kernel
theorem dX6_tellSheet_52 : decode cX6_tellSheet 52 = .ok (.if_icmp .ne 7, 3) := by decide +kernel
theorem dX6_tellSheet_55 : decode cX6_tellSheet 55 = .ok (.iconst 1, 1) := by decide +kernel
theorem dX6_tellSheet_56 : decode cX6_tellSheet 56 = .ok (.goto 4, 3) := by decide +kernel
theorem dX6_tellSheet_59 : decode cX6_tellSheet 59 = .ok (.iconst 0, 1) := by decide +kernel
theorem dX6_tellSheet_60 : decode cX6_tellSheet 60 = .ok (.invokevirtual 341, 3) := by decide +kernel
theorem dX6_tellSheet_63 : decode cX6_tellSheet 63 = .ok (.ifCond .ne 6, 3) := by decide +kernel
theorem dX6_tellSheet_66 : decode cX6_tellSheet 66 = .ok (.goto 12, 3) := by decide +kernel
theorem dX6_tellSheet_69 : decode cX6_tellSheet 69 = .ok (.iinc 4 1, 3) := by decide +kernel
theorem dX6_tellSheet_72 : decode cX6_tellSheet 72 = .ok (.iinc 5 1, 3) := by decide +kernel
theorem dX6_tellSheet_75 : decode cX6_tellSheet 75 = .ok (.goto (-69), 3) := by decide +kernel
theorem dX6_tellSheet_78 : decode cX6_tellSheet 78 = .ok (.iload 4, 2) := by decide +kernel
theorem dX6_tellSheet_80 : decode cX6_tellSheet 80 = .ok (.ireturn, 1) := by decide +kernel
theorem dX7_init_0 : decode cX7_init 0 = .ok (.aload_n 0, 1) := by decide +kernel
theorem dX7_init_1 : decode cX7_init 1 = .ok (.invokespecial 1, 3) := by decide +kernel
theorem dX7_init_4 : decode cX7_init 4 = .ok (.aload_n 0, 1) := by decide +kernel
theorem dX7_init_5 : decode cX7_init 5 = .ok (.bipush 8, 2) := by decide +kernel
theorem dX7_init_7 : decode cX7_init 7 = .ok (.newarray .int, 2) := by decide +kernel
theorem dX7_init_9 : decode cX7_init 9 = .ok (.putfield 7, 3) := by decide +kernel
theorem dX7_init_12 : decode cX7_init 12 = .ok (.aload_n 0, 1) := by decide +kernel
theorem dX7_init_13 : decode cX7_init 13 = .ok (.bipush 8, 2) := by decide +kernel
theorem dX7_init_15 : decode cX7_init 15 = .ok (.newarray .int, 2) := by decide +kernel
theorem dX7_init_17 : decode cX7_init 17 = .ok (.putfield 13, 3) := by decide +kernel
theorem dX7_init_20 : decode cX7_init 20 = .ok (.aload_n 0, 1) := by decide +kernel
theorem dX7_init_21 : decode cX7_init 21 = .ok (.bipush 10, 2) := by decide +kernel
theorem dX7_init_23 : decode cX7_init 23 = .ok (.newarray .int, 2) := by decide +kernel
theorem dX7_init_25 : decode cX7_init 25 = .ok (.putfield 16, 3) := by decide +kernel
theorem dX7_init_28 : decode cX7_init 28 = .ok (.aload_n 0, 1) := by decide +kernel
theorem dX7_init_29 : decode cX7_init 29 = .ok (.bipush 16, 2) := by decide +kernel
theorem dX7_init_31 : decode cX7_init 31 = .ok (.newarray .int, 2) := by decide +kernel
theorem dX7_init_33 : decode cX7_init 33 = .ok (.putfield 19, 3) := by decide +kernel
theorem dX7_init_36 : decode cX7_init 36 = .ok (.aload_n 0, 1) := by decide +kernel
theorem dX7_init_37 : decode cX7_init 37 = .ok (.bipush 16, 2) := by decide +kernel
theorem dX7_init_39 : decode cX7_init 39 = .ok (.newarray .int, 2) := by decide +kernel
theorem dX7_init_41 : decode cX7_init 41 = .ok (.putfield 22, 3) := by decide +kernel
theorem dX7_init_44 : decode cX7_init 44 = .ok (.aload_n 0, 1) := by decide +kernel
theorem dX7_init_45 : decode cX7_init 45 = .ok (.bipush 60, 2) := by decide +kernel
theorem dX7_init_47 : decode cX7_init 47 = .ok (.newarray .int, 2) := by decide +kernel
theorem dX7_init_49 : decode cX7_init 49 = .ok (.putfield 25, 3) := by decide +kernel
theorem dX7_init_52 : decode cX7_init 52 = .ok (.aload_n 0, 1) := by decide +kernel
theorem dX7_init_53 : decode cX7_init 53 = .ok (.bipush 60, 2) := by decide +kernel
theorem dX7_init_55 : decode cX7_init 55 = .ok (.newarray .int, 2) := by decide +kernel
theorem dX7_init_57 : decode cX7_init 57 = .ok (.putfield 28, 3) := by decide +kernel
theorem dX7_init_60 : decode cX7_init 60 = .ok (.aload_n 0, 1) := by decide +kernel
theorem dX7_init_61 : decode cX7_init 61 = .ok (.bipush 60, 2) := by decide +kernel
theorem dX7_init_63 : decode cX7_init 63 = .ok (.newarray .int, 2) := by decide +kernel
theorem dX7_init_65 : decode cX7_init 65 = .ok (.putfield 31, 3) := by decide +kernel
theorem dX7_init_68 : decode cX7_init 68 = .ok (.aload_n 0, 1) := by decide +kernel
theorem dX7_init_69 : decode cX7_init 69 = .ok (.bipush 60, 2) := by decide +kernel
theorem dX7_init_71 : decode cX7_init 71 = .ok (.newarray .int, 2) := by decide +kernel
theorem dX7_init_73 : decode cX7_init 73 = .ok (.putfield 34, 3) := by decide +kernel
theorem dX7_init_76 : decode cX7_init 76 = .ok (.aload_n 0, 1) := by decide +kernel
theorem dX7_init_77 : decode cX7_init 77 = .ok (.sipush 999, 3) := by decide +kernel
theorem dX7_init_80 : decode cX7_init 80 = .ok (.putfield 37, 3) := by decide +kernel
theorem dX7_init_83 : decode cX7_init 83 = .ok (.aload_n 0, 1) := by decide +kernel
theorem dX7_init_84 : decode cX7_init 84 = .ok (.bipush 40, 2) := by decide +kernel
theorem dX7_init_86 : decode cX7_init 86 = .ok (.newarray .int, 2) := by decide +kernel
theorem dX7_init_88 : decode cX7_init 88 = .ok (.putfield 41, 3) := by decide +kernel
theorem dX7_init_91 : decode cX7_init 91 = .ok (.aload_n 0, 1) := by decide +kernel
theorem dX7_init_92 : decode cX7_init 92 = .ok (.bipush 40, 2) := by decide +kernel
theorem dX7_init_94 : decode cX7_init 94 = .ok (.newarray .int, 2) := by decide +kernel
theorem dX7_init_96 : decode cX7_init 96 = .ok (.putfield 44, 3) := by decide +kernel
theorem dX7_init_99 : decode cX7_init 99 = .ok (.aload_n 0, 1) := by decide +kernel
theorem dX7_init_100 : decode cX7_init 100 = .ok (.bipush 40, 2) := by decide +kernel
theorem dX7_init_102 : decode cX7_init 102 = .ok (.newarray .int, 2) := by decide +kernel
theorem dX7_init_104 : decode cX7_init 104 = .ok (.putfield 47, 3) := by decide +kernel
theorem dX7_init_107 : decode cX7_init 107 = .ok (.aload_n 0, 1) := by decide +kernel
theorem dX7_init_108 : decode cX7_init 108 = .ok (.bipush 40, 2) := by decide +kernel
theorem dX7_init_110 : decode cX7_init 110 = .ok (.newarray .int, 2) := by decide +kernel
theorem dX7_init_112 : decode cX7_init 112 = .ok (.putfield 50, 3) := by decide +kernel
theorem dX7_init_115 : decode cX7_init 115 = .ok (.aload_n 0, 1) := by decide +kernel
theorem dX7_init_116 : decode cX7_init 116 = .ok (.bipush 8, 2) := by decide +kernel
theorem dX7_init_118 : decode cX7_init 118 = .ok (.newarray .int, 2) := by decide +kernel
theorem dX7_init_120 : decode cX7_init 120 = .ok (.putfield 53, 3) := by decide +kernel
theorem dX7_init_123 : decode cX7_init 123 = .ok (.aload_n 0, 1) := by decide +kernel
theorem dX7_init_124 : decode cX7_init 124 = .ok (.bipush 8, 2) := by decide +kernel
theorem dX7_init_126 : decode cX7_init 126 = .ok (.newarray .int, 2) := by decide +kernel
theorem dX7_init_128 : decode cX7_init 128 = .ok (.putfield 56, 3) := by decide +kernel
theorem dX7_init_131 : decode cX7_init 131 = .ok (.aload_n 0, 1) := by decide +kernel
theorem dX7_init_132 : decode cX7_init 132 = .ok (.sipush 1000, 3) := by decide +kernel
theorem dX7_init_135 : decode cX7_init 135 = .ok (.newarray .int, 2) := by decide +kernel
theorem dX7_init_137 : decode cX7_init 137 = .ok (.putfield 59, 3) := by decide +kernel
theorem dX7_init_140 : decode cX7_init 140 = .ok (.aload_n 0, 1) := by decide +kernel
theorem dX7_init_141 : decode cX7_init 141 = .ok (.bipush 8, 2) := by decide +kernel
theorem dX7_init_143 : decode cX7_init 143 = .ok (.newarray .int, 2) := by decide +kernel
theorem dX7_init_145 : decode cX7_init 145 = .ok (.putfield 62, 3) := by decide +kernel
theorem dX7_init_148 : decode cX7_init 148 = .ok (.aload_n 0, 1) := by decide +kernel
theorem dX7_init_149 : decode cX7_init 149 = .ok (.bipush 8, 2) := by decide +kernel
theorem dX7_init_151 : decode cX7_init 151 = .ok (.newarray .int, 2) := by decide +kernel
theorem dX7_init_153 : decode cX7_init 153 = .ok (.putfield 65, 3) := by decide +kernel
theorem dX7_init_156 : decode cX7_init 156 = .ok (.aload_n 0, 1) := by decide +kernel
theorem dX7_init_157 : decode cX7_init 157 = .ok (.bipush 8, 2) := by decide +kernel
theorem dX7_init_159 : decode cX7_init 159 = .ok (.newarray .int, 2) := by decide +kernel
theorem dX7_init_161 : decode cX7_init 161 = .ok (.putfield 68, 3) := by decide +kernel
theorem dX7_init_164 : decode cX7_init 164 = .ok (.aload_n 0, 1) := by decide +kernel
theorem dX7_init_165 : decode cX7_init 165 = .ok (.bipush 8, 2) := by decide +kernel
theorem dX7_init_167 : decode cX7_init 167 = .ok (.newarray .int, 2) := by decide +kernel
theorem dX7_init_169 : decode cX7_init 169 = .ok (.putfield 71, 3) := by decide +kernel
theorem dX7_init_172 : decode cX7_init 172 = .ok (.aload_n 0, 1) := by decide +kernel
theorem dX7_init_173 : decode cX7_init 173 = .ok (.bipush 8, 2) := by decide +kernel
theorem dX7_init_175 : decode cX7_init 175 = .ok (.newarray .int, 2) := by decide +kernel
theorem dX7_init_177 : decode cX7_init 177 = .ok (.putfield 74, 3) := by decide +kernel
theorem dX7_init_180 : decode cX7_init 180 = .ok (.aload_n 0, 1) := by decide +kernel
theorem dX7_init_181 : decode cX7_init 181 = .ok (.iconst 4, 1) := by decide +kernel
theorem dX7_init_182 : decode cX7_init 182 = .ok (.newarray .boolean, 2) := by decide +kernel
theorem dX7_init_184 : decode cX7_init 184 = .ok (.putfield 77, 3) := by decide +kernel
theorem dX7_init_187 : decode cX7_init 187 = .ok (.aload_n 0, 1) := by decide +kernel
theorem dX7_init_188 : decode cX7_init 188 = .ok (.iconst 4, 1) := by decide +kernel
theorem dX7_init_189 : decode cX7_init 189 = .ok (.newarray .int, 2) := by decide +kernel
theorem dX7_init_191 : decode cX7_init 191 = .ok (.putfield 81, 3) := by decide +kernel
theorem dX7_init_194 : decode cX7_init 194 = .ok (.aload_n 0, 1) := by decide +kernel
theorem dX7_init_195 : decode cX7_init 195 = .ok (.iconst 4, 1) := by decide +kernel
theorem dX7_init_196 : decode cX7_init 196 = .ok (.newarray .int, 2) := by decide +kernel
theorem dX7_init_198 : decode cX7_init 198 = .ok (.putfield 84, 3) := by decide +kernel
theorem dX7_init_201 : decode cX7_init 201 = .ok (.aload_n 0, 1) := by decide +kernel
theorem dX7_init_202 : decode cX7_init 202 = .ok (.sipush 160, 3) := by decide +kernel
theorem dX7_init_205 : decode cX7_init 205 = .ok (.newarray .int, 2) := by decide +kernel
theorem dX7_init_207 : decode cX7_init 207 = .ok (.putfield 87, 3) := by decide +kernel
theorem dX7_init_210 : decode cX7_init 210 = .ok (.aload_n 0, 1) := by decide +kernel
theorem dX7_init_211 : decode cX7_init 211 = .ok (.bipush 40, 2) := by decide +kernel
theorem dX7_init_213 : decode cX7_init 213 = .ok (.newarray .int, 2) := by decide +kernel
theorem dX7_init_215 : decode cX7_init 215 = .ok (.putfield 90, 3) := by decide +kernel
theorem dX7_init_218 : decode cX7_init 218 = .ok (.iconst 0, 1) := by decide +kernel
theorem dX7_init_219 : decode cX7_init 219 = .ok (.istore_n 1, 1) := by decide +kernel
theorem dX7_init_220 : decode cX7_init 220 = .ok (.iload_n 1, 1) := by decide +kernel
theorem dX7_init_221 : decode cX7_init 221 = .ok (.bipush 10, 2) := by decide +kernel
theorem dX7_init_223 : decode cX7_init 223 = .ok (.if_icmp .ge 16, 3) := by decide +kernel
theorem dX7_init_226 : decode cX7_init 226 = .ok (.aload_n 0, 1) := by decide +kernel
theorem dX7_init_227 : decode cX7_init 227 = .ok (.getfield 16, 3) := by decide +kernel
theorem dX7_init_230 : decode cX7_init 230 = .ok (.iload_n 1, 1) := by decide +kernel
theorem dX7_init_231 : decode cX7_init 231 = .ok (.iconst 1, 1) := by decide +kernel
theorem dX7_init_232 : decode cX7_init 232 = .ok (.iastore, 1) := by decide +kernel
theorem dX7_init_233 : decode cX7_init 233 = .ok (.iinc 1 1, 3) := by decide +kernel
theorem dX7_init_236 : decode cX7_init 236 = .ok (.goto (-16), 3) := by decide +kernel
theorem dX7_init_239 : decode cX7_init 239 = .ok (.return_, 1) := by decide +kernel
theorem dX7_in_0 : decode cX7_in 0 = .ok (.iload_n 0, 1) := by decide +kernel
theorem dX7_in_1 : decode cX7_in 1 = .ok (.iload_n 1, 1) := by decide +kernel
theorem dX7_in_2 : decode cX7_in 2 = .ok (.if_icmp .lt 12, 3) := by decide +kernel
theorem dX7_in_5 : decode cX7_in 5 = .ok (.iload_n 0, 1) := by decide +kernel
theorem dX7_in_6 : decode cX7_in 6 = .ok (.iload_n 2, 1) := by decide +kernel
theorem dX7_in_7 : decode cX7_in 7 = .ok (.if_icmp .gt 7, 3) := by decide +kernel
theorem dX7_in_10 : decode cX7_in 10 = .ok (.iconst 1, 1) := by decide +kernel
theorem dX7_in_11 : decode cX7_in 11 = .ok (.goto 4, 3) := by decide +kernel
theorem dX7_in_14 : decode cX7_in 14 = .ok (.iconst 0, 1) := by decide +kernel
theorem dX7_in_15 : decode cX7_in 15 = .ok (.ireturn, 1) := by decide +kernel
theorem dX7_is_0 : decode cX7_is 0 = .ok (.iload_n 0, 1) := by decide +kernel
theorem dX7_is_1 : decode cX7_is 1 = .ok (.iload_n 1, 1) := by decide +kernel
theorem dX7_is_2 : decode cX7_is 2 = .ok (.ishr, 1) := by decide +kernel
theorem dX7_is_3 : decode cX7_is 3 = .ok (.iconst 1, 1) := by decide +kernel
theorem dX7_is_4 : decode cX7_is 4 = .ok (.iand, 1) := by decide +kernel
theorem dX7_is_5 : decode cX7_is 5 = .ok (.iconst 1, 1) := by decide +kernel
theorem dX7_is_6 : decode cX7_is 6 = .ok (.if_icmp .ne 7, 3) := by decide +kernel
theorem dX7_is_9 : decode cX7_is 9 = .ok (.iconst 1, 1) := by decide +kernel
theorem dX7_is_10 : decode cX7_is 10 = .ok (.goto 4, 3) := by decide +kernel
theorem dX7_is_13 : decode cX7_is 13 = .ok (.iconst 0, 1) := by decide +kernel
theorem dX7_is_14 : decode cX7_is 14 = .ok (.ireturn, 1) := by decide +kernel
theorem dX7_ones_0 : decode cX7_ones 0 = .ok (.iconst 0, 1) := by decide +kernel
theorem dX7_ones_1 : decode cX7_ones 1 = .ok (.istore_n 1, 1) := by decide +kernel
theorem dX7_ones_2 : decode cX7_ones 2 = .ok (.iconst 0, 1) := by decide +kernel
theorem dX7_ones_3 : decode cX7_ones 3 = .ok (.istore_n 2, 1) := by decide +kernel
theorem dX7_ones_4 : decode cX7_ones 4 = .ok (.iload_n 2, 1) := by decide +kernel
theorem dX7_ones_5 : decode cX7_ones 5 = .ok (.bipush 12, 2) := by decide +kernel
theorem dX7_ones_7 : decode cX7_ones 7 = .ok (.if_icmp .ge 17, 3) := by decide +kernel
theorem dX7_ones_10 : decode cX7_ones 10 = .ok (.iload_n 1, 1) := by decide +kernel
theorem dX7_ones_11 : decode cX7_ones 11 = .ok (.iload_n 0, 1) := by decide +kernel
theorem dX7_ones_12 : decode cX7_ones 12 = .ok (.iload_n 2, 1) := by decide +kernel
theorem dX7_ones_13 : decode cX7_ones 13 = .ok (.ishr, 1) := by decide +kernel
theorem dX7_ones_14 : decode cX7_ones 14 = .ok (.iconst 1, 1) := by decide +kernel
theorem dX7_ones_15 : decode cX7_ones 15 = .ok (.iand, 1) := by decide +kernel
theorem dX7_ones_16 : decode cX7_ones 16 = .ok (.iadd, 1) := by decide +kernel
theorem dX7_ones_17 : decode cX7_ones 17 = .ok (.istore_n 1, 1) := by decide +kernel
theorem dX7_ones_18 : decode cX7_ones 18 = .ok (.iinc 2 1, 3) := by decide +kernel
theorem dX7_ones_21 : decode cX7_ones 21 = .ok (.goto (-17), 3) := by decide +kernel
theorem dX7_ones_24 : decode cX7_ones 24 = .ok (.iload_n 1, 1) := by decide +kernel
theorem dX7_ones_25 : decode cX7_ones 25 = .ok (.ireturn, 1) := by decide +kernel
theorem dX7_no_0 : decode cX7_no 0 = .ok (.ldc2_w 93, 3) := by decide +kernel
theorem dX7_no_3 : decode cX7_no 3 = .ok (.iload_n 0, 1) := by decide +kernel
theorem dX7_no_4 : decode cX7_no 4 = .ok (.i2l, 1) := by decide +kernel
theorem dX7_no_5 : decode cX7_no 5 = .ok (.lsub, 1) := by decide +kernel
theorem dX7_no_6 : decode cX7_no 6 = .ok (.lreturn, 1) := by decide +kernel
theorem dX7_lowest_0 : decode cX7_lowest 0 = .ok (.lload_n 0, 1) := by decide +kernel
theorem dX7_lowest_1 : decode cX7_lowest 1 = .ok (.lstore 5, 2) := by decide +kernel
theorem dX7_lowest_3 : decode cX7_lowest 3 = .ok (.lload_n 2, 1) := by decide +kernel
theorem dX7_lowest_4 : decode cX7_lowest 4 = .ok (.lstore 7, 2) := by decide +kernel
theorem dX7_lowest_6 : decode cX7_lowest 6 = .ok (.lload 7, 2) := by decide +kernel
theorem dX7_lowest_8 : decode cX7_lowest 8 = .ok (.lconst 0, 1) := by decide +kernel
theorem dX7_lowest_9 : decode cX7_lowest 9 = .ok (.lcmp, 1) := by decide +kernel
theorem dX7_lowest_10 : decode cX7_lowest 10 = .ok (.ifCond .eq 21, 3) := by decide +kernel
theorem dX7_lowest_13 : decode cX7_lowest 13 = .ok (.lload 5, 2) := by decide +kernel
theorem dX7_lowest_15 : decode cX7_lowest 15 = .ok (.lload 7, 2) := by decide +kernel
theorem dX7_lowest_17 : decode cX7_lowest 17 = .ok (.lrem, 1) := by decide +kernel
theorem dX7_lowest_18 : decode cX7_lowest 18 = .ok (.lstore 9, 2) := by decide +kernel
theorem dX7_lowest_20 : decode cX7_lowest 20 = .ok (.lload 7, 2) := by decide +kernel
theorem dX7_lowest_22 : decode cX7_lowest 22 = .ok (.lstore 5, 2) := by decide +kernel
theorem dX7_lowest_24 : decode cX7_lowest 24 = .ok (.lload 9, 2) := by decide +kernel
theorem dX7_lowest_26 : decode cX7_lowest 26 = .ok (.lstore 7, 2) := by decide +kernel
theorem dX7_lowest_28 : decode cX7_lowest 28 = .ok (.goto (-22), 3) := by decide +kernel
theorem dX7_lowest_31 : decode cX7_lowest 31 = .ok (.iload 4, 2) := by decide +kernel
theorem dX7_lowest_33 : decode cX7_lowest 33 = .ok (.ifCond .ne 10, 3) := by decide +kernel
theorem dX7_lowest_36 : decode cX7_lowest 36 = .ok (.lload_n 0, 1) := by decide +kernel
theorem dX7_lowest_37 : decode cX7_lowest 37 = .ok (.lload 5, 2) := by decide +kernel
theorem dX7_lowest_39 : decode cX7_lowest 39 = .ok (.ldiv, 1) := by decide +kernel
theorem dX7_lowest_40 : decode cX7_lowest 40 = .ok (.goto 7, 3) := by decide +kernel
theorem dX7_lowest_43 : decode cX7_lowest 43 = .ok (.lload_n 2, 1) := by decide +kernel
theorem dX7_lowest_44 : decode cX7_lowest 44 = .ok (.lload 5, 2) := by decide +kernel
theorem dX7_lowest_46 : decode cX7_lowest 46 = .ok (.ldiv, 1) := by decide +kernel
theorem dX7_lowest_47 : decode cX7_lowest 47 = .ok (.lreturn, 1) := by decide +kernel
theorem dX7_isGrave_0 : decode cX7_isGrave 0 = .ok (.iload_n 1, 1) := by decide +kernel
theorem dX7_isGrave_1 : decode cX7_isGrave 1 = .ok (.iconst 0, 1) := by decide +kernel
theorem dX7_isGrave_2 : decode cX7_isGrave 2 = .ok (.aload_n 0, 1) := by decide +kernel
theorem dX7_isGrave_3 : decode cX7_isGrave 3 = .ok (.getfield 95, 3) := by decide +kernel
theorem dX7_isGrave_6 : decode cX7_isGrave 6 = .ok (.iconst 1, 1) := by decide +kernel
theorem dX7_isGrave_7 : decode cX7_isGrave 7 = .ok (.isub, 1) := by decide +kernel
theorem dX7_isGrave_8 : decode cX7_isGrave 8 = .ok (.invokestatic 98, 3) := by decide +kernel
theorem dX7_isGrave_11 : decode cX7_isGrave 11 = .ok (.ireturn, 1) := by decide +kernel
theorem dX7_isKind_0 : decode cX7_isKind 0 = .ok (.iload_n 0, 1) := by decide +kernel
theorem dX7_isKind_1 : decode cX7_isKind 1 = .ok (.iconst 0, 1) := by decide +kernel
theorem dX7_isKind_2 : decode cX7_isKind 2 = .ok (.bipush 9, 2) := by decide +kernel
theorem dX7_isKind_4 : decode cX7_isKind 4 = .ok (.invokestatic 98, 3) := by decide +kernel
theorem dX7_isKind_7 : decode cX7_isKind 7 = .ok (.ireturn, 1) := by decide +kernel
theorem dX7_grave_0 : decode cX7_grave 0 = .ok (.iload_n 1, 1) := by decide +kernel
theorem dX7_grave_1 : decode cX7_grave 1 = .ok (.iconst 0, 1) := by decide +kernel
theorem dX7_grave_2 : decode cX7_grave 2 = .ok (.bipush 99, 2) := by decide +kernel
theorem dX7_grave_4 : decode cX7_grave 4 = .ok (.invokestatic 98, 3) := by decide +kernel
theorem dX7_grave_7 : decode cX7_grave 7 = .ok (.ifCond .eq 13, 3) := by decide +kernel
theorem dX7_grave_10 : decode cX7_grave 10 = .ok (.iload_n 2, 1) := by decide +kernel
theorem dX7_grave_11 : decode cX7_grave 11 = .ok (.iload_n 1, 1) := by decide +kernel
theorem dX7_grave_12 : decode cX7_grave 12 = .ok (.bipush 99, 2) := by decide +kernel
theorem dX7_grave_14 : decode cX7_grave 14 = .ok (.invokestatic 98, 3) := by decide +kernel
theorem dX7_grave_17 : decode cX7_grave 17 = .ok (.ifCond .ne 6, 3) := by decide +kernel
theorem dX7_grave_20 : decode cX7_grave 20 = .ok (.bipush (-2), 2) := by decide +kernel
theorem dX7_grave_22 : decode cX7_grave 22 = .ok (.ireturn, 1) := by decide +kernel
theorem dX7_grave_23 : decode cX7_grave 23 = .ok (.aload_n 0, 1) := by decide +kernel
theorem dX7_grave_24 : decode cX7_grave 24 = .ok (.getfield 95, 3) := by decide +kernel
theorem dX7_grave_27 : decode cX7_grave 27 = .ok (.bipush 8, 2) := by decide +kernel
theorem dX7_grave_29 : decode cX7_grave 29 = .ok (.if_icmp .ne 6, 3) := by decide +kernel
theorem dX7_grave_32 : decode cX7_grave 32 = .ok (.bipush (-4), 2) := by decide +kernel
theorem dX7_grave_34 : decode cX7_grave 34 = .ok (.ireturn, 1) := by decide +kernel
theorem dX7_grave_35 : decode cX7_grave 35 = .ok (.aload_n 0, 1) := by decide +kernel
theorem dX7_grave_36 : decode cX7_grave 36 = .ok (.getfield 7, 3) := by decide +kernel
theorem dX7_grave_39 : decode cX7_grave 39 = .ok (.aload_n 0, 1) := by decide +kernel
theorem dX7_grave_40 : decode cX7_grave 40 = .ok (.getfield 95, 3) := by decide +kernel
theorem dX7_grave_43 : decode cX7_grave 43 = .ok (.iload_n 1, 1) := by decide +kernel
theorem dX7_grave_44 : decode cX7_grave 44 = .ok (.iastore, 1) := by decide +kernel
theorem dX7_grave_45 : decode cX7_grave 45 = .ok (.aload_n 0, 1) := by decide +kernel
theorem dX7_grave_46 : decode cX7_grave 46 = .ok (.getfield 13, 3) := by decide +kernel
theorem dX7_grave_49 : decode cX7_grave 49 = .ok (.aload_n 0, 1) := by decide +kernel
theorem dX7_grave_50 : decode cX7_grave 50 = .ok (.getfield 95, 3) := by decide +kernel
theorem dX7_grave_53 : decode cX7_grave 53 = .ok (.iload_n 2, 1) := by decide +kernel
theorem dX7_grave_54 : decode cX7_grave 54 = .ok (.iastore, 1) := by decide +kernel
theorem dX7_grave_55 : decode cX7_grave 55 = .ok (.aload_n 0, 1) := by decide +kernel
theorem dX7_grave_56 : decode cX7_grave 56 = .ok (.dup, 1) := by decide +kernel
theorem dX7_grave_57 : decode cX7_grave 57 = .ok (.getfield 95, 3) := by decide +kernel
theorem dX7_grave_60 : decode cX7_grave 60 = .ok (.iconst 1, 1) := by decide +kernel
theorem dX7_grave_61 : decode cX7_grave 61 = .ok (.iadd, 1) := by decide +kernel
theorem dX7_grave_62 : decode cX7_grave 62 = .ok (.putfield 95, 3) := by decide +kernel
theorem dX7_grave_65 : decode cX7_grave 65 = .ok (.aload_n 0, 1) := by decide +kernel
theorem dX7_grave_66 : decode cX7_grave 66 = .ok (.iconst 0, 1) := by decide +kernel
theorem dX7_grave_67 : decode cX7_grave 67 = .ok (.putfield 102, 3) := by decide +kernel
theorem dX7_grave_70 : decode cX7_grave 70 = .ok (.aload_n 0, 1) := by decide +kernel
theorem dX7_grave_71 : decode cX7_grave 71 = .ok (.getfield 95, 3) := by decide +kernel
theorem dX7_grave_74 : decode cX7_grave 74 = .ok (.iconst 1, 1) := by decide +kernel
theorem dX7_grave_75 : decode cX7_grave 75 = .ok (.isub, 1) := by decide +kernel
theorem dX7_grave_76 : decode cX7_grave 76 = .ok (.ireturn, 1) := by decide +kernel
theorem dX7_robbed_0 : decode cX7_robbed 0 = .ok (.aload_n 0, 1) := by decide +kernel
theorem dX7_robbed_1 : decode cX7_robbed 1 = .ok (.iload_n 1, 1) := by decide +kernel
theorem dX7_robbed_2 : decode cX7_robbed 2 = .ok (.invokevirtual 106, 3) := by decide +kernel
theorem dX7_robbed_5 : decode cX7_robbed 5 = .ok (.ifCond .eq 12, 3) := by decide +kernel
theorem dX7_robbed_8 : decode cX7_robbed 8 = .ok (.iload_n 2, 1) := by decide +kernel
theorem dX7_robbed_9 : decode cX7_robbed 9 = .ok (.iconst 0, 1) := by decide +kernel
theorem dX7_robbed_10 : decode cX7_robbed 10 = .ok (.iconst 1, 1) := by decide +kernel
theorem dX7_robbed_11 : decode cX7_robbed 11 = .ok (.invokestatic 98, 3) := by decide +kernel
theorem dX7_robbed_14 : decode cX7_robbed 14 = .ok (.ifCond .ne 6, 3) := by decide +kernel
theorem dX7_robbed_17 : decode cX7_robbed 17 = .ok (.bipush (-2), 2) := by decide +kernel
theorem dX7_robbed_19 : decode cX7_robbed 19 = .ok (.ireturn, 1) := by decide +kernel
theorem dX7_robbed_20 : decode cX7_robbed 20 = .ok (.aload_n 0, 1) := by decide +kernel
theorem dX7_robbed_21 : decode cX7_robbed 21 = .ok (.getfield 110, 3) := by decide +kernel
theorem dX7_robbed_24 : decode cX7_robbed 24 = .ok (.iload_n 1, 1) := by decide +kernel
theorem dX7_robbed_25 : decode cX7_robbed 25 = .ok (.ishr, 1) := by decide +kernel
theorem dX7_robbed_26 : decode cX7_robbed 26 = .ok (.iconst 1, 1) := by decide +kernel
theorem dX7_robbed_27 : decode cX7_robbed 27 = .ok (.iand, 1) := by decide +kernel
theorem dX7_robbed_28 : decode cX7_robbed 28 = .ok (.istore_n 3, 1) := by decide +kernel
theorem dX7_robbed_29 : decode cX7_robbed 29 = .ok (.aload_n 0, 1) := by decide +kernel
theorem dX7_robbed_30 : decode cX7_robbed 30 = .ok (.iload_n 2, 1) := by decide +kernel
theorem dX7_robbed_31 : decode cX7_robbed 31 = .ok (.iconst 1, 1) := by decide +kernel
theorem dX7_robbed_32 : decode cX7_robbed 32 = .ok (.if_icmp .ne 14, 3) := by decide +kernel
theorem dX7_robbed_35 : decode cX7_robbed 35 = .ok (.aload_n 0, 1) := by decide +kernel
theorem dX7_robbed_36 : decode cX7_robbed 36 = .ok (.getfield 110, 3) := by decide +kernel
theorem dX7_robbed_39 : decode cX7_robbed 39 = .ok (.iconst 1, 1) := by decide +kernel
theorem dX7_robbed_40 : decode cX7_robbed 40 = .ok (.iload_n 1, 1) := by decide +kernel
theorem dX7_robbed_41 : decode cX7_robbed 41 = .ok (.ishl, 1) := by decide +kernel
theorem dX7_robbed_42 : decode cX7_robbed 42 = .ok (.ior, 1) := by decide +kernel
theorem dX7_robbed_43 : decode cX7_robbed 43 = .ok (.goto 13, 3) := by decide +kernel
theorem dX7_robbed_46 : decode cX7_robbed 46 = .ok (.aload_n 0, 1) := by decide +kernel
theorem dX7_robbed_47 : decode cX7_robbed 47 = .ok (.getfield 110, 3) := by decide +kernel
theorem dX7_robbed_50 : decode cX7_robbed 50 = .ok (.iconst 1, 1) := by decide +kernel
theorem dX7_robbed_51 : decode cX7_robbed 51 = .ok (.iload_n 1, 1) := by decide +kernel
theorem dX7_robbed_52 : decode cX7_robbed 52 = .ok (.ishl, 1) := by decide +kernel
theorem dX7_robbed_53 : decode cX7_robbed 53 = .ok (.iconst (-1), 1) := by decide +kernel
theorem dX7_robbed_54 : decode cX7_robbed 54 = .ok (.ixor, 1) := by decide +kernel
theorem dX7_robbed_55 : decode cX7_robbed 55 = .ok (.iand, 1) := by decide +kernel
theorem dX7_robbed_56 : decode cX7_robbed 56 = .ok (.putfield 110, 3) := by decide +kernel
theorem dX7_robbed_59 : decode cX7_robbed 59 = .ok (.aload_n 0, 1) := by decide +kernel
theorem dX7_robbed_60 : decode cX7_robbed 60 = .ok (.iconst 0, 1) := by decide +kernel
theorem dX7_robbed_61 : decode cX7_robbed 61 = .ok (.putfield 102, 3) := by decide +kernel
theorem dX7_robbed_64 : decode cX7_robbed 64 = .ok (.iload_n 3, 1) := by decide +kernel
theorem dX7_robbed_65 : decode cX7_robbed 65 = .ok (.ireturn, 1) := by decide +kernel
theorem dX7_weight_0 : decode cX7_weight 0 = .ok (.iload_n 1, 1) := by decide +kernel
theorem dX7_weight_1 : decode cX7_weight 1 = .ok (.invokestatic 113, 3) := by decide +kernel
theorem dX7_weight_4 : decode cX7_weight 4 = .ok (.ifCond .eq 12, 3) := by decide +kernel
theorem dX7_weight_7 : decode cX7_weight 7 = .ok (.iload_n 2, 1) := by decide +kernel
theorem dX7_weight_8 : decode cX7_weight 8 = .ok (.iconst 0, 1) := by decide +kernel
theorem dX7_weight_9 : decode cX7_weight 9 = .ok (.iconst 3, 1) := by decide +kernel
theorem dX7_weight_10 : decode cX7_weight 10 = .ok (.invokestatic 98, 3) := by decide +kernel
theorem dX7_weight_13 : decode cX7_weight 13 = .ok (.ifCond .ne 6, 3) := by decide +kernel
theorem dX7_weight_16 : decode cX7_weight 16 = .ok (.bipush (-2), 2) := by decide +kernel
theorem dX7_weight_18 : decode cX7_weight 18 = .ok (.ireturn, 1) := by decide +kernel
theorem dX7_weight_19 : decode cX7_weight 19 = .ok (.aload_n 0, 1) := by decide +kernel
theorem dX7_weight_20 : decode cX7_weight 20 = .ok (.getfield 16, 3) := by decide +kernel
theorem dX7_weight_23 : decode cX7_weight 23 = .ok (.iload_n 1, 1) := by decide +kernel
theorem dX7_weight_24 : decode cX7_weight 24 = .ok (.iaload, 1) := by decide +kernel
theorem dX7_weight_25 : decode cX7_weight 25 = .ok (.istore_n 3, 1) := by decide +kernel
theorem dX7_weight_26 : decode cX7_weight 26 = .ok (.aload_n 0, 1) := by decide +kernel
theorem dX7_weight_27 : decode cX7_weight 27 = .ok (.getfield 16, 3) := by decide +kernel
theorem dX7_weight_30 : decode cX7_weight 30 = .ok (.iload_n 1, 1) := by decide +kernel
theorem dX7_weight_31 : decode cX7_weight 31 = .ok (.iload_n 2, 1) := by decide +kernel
theorem dX7_weight_32 : decode cX7_weight 32 = .ok (.iastore, 1) := by decide +kernel
theorem dX7_weight_33 : decode cX7_weight 33 = .ok (.aload_n 0, 1) := by decide +kernel
theorem dX7_weight_34 : decode cX7_weight 34 = .ok (.iconst 0, 1) := by decide +kernel
theorem dX7_weight_35 : decode cX7_weight 35 = .ok (.putfield 102, 3) := by decide +kernel
theorem dX7_weight_38 : decode cX7_weight 38 = .ok (.iload_n 3, 1) := by decide +kernel
theorem dX7_weight_39 : decode cX7_weight 39 = .ok (.ireturn, 1) := by decide +kernel
theorem dX7_over_0 : decode cX7_over 0 = .ok (.aload_n 0, 1) := by decide +kernel
theorem dX7_over_1 : decode cX7_over 1 = .ok (.iload_n 1, 1) := by decide +kernel
theorem dX7_over_2 : decode cX7_over 2 = .ok (.invokevirtual 106, 3) := by decide +kernel
theorem dX7_over_5 : decode cX7_over 5 = .ok (.ifCond .eq 16, 3) := by decide +kernel
theorem dX7_over_8 : decode cX7_over 8 = .ok (.aload_n 0, 1) := by decide +kernel
theorem dX7_over_9 : decode cX7_over 9 = .ok (.iload_n 2, 1) := by decide +kernel
theorem dX7_over_10 : decode cX7_over 10 = .ok (.invokevirtual 106, 3) := by decide +kernel
theorem dX7_over_13 : decode cX7_over 13 = .ok (.ifCond .eq 8, 3) := by decide +kernel
theorem dX7_over_16 : decode cX7_over 16 = .ok (.iload_n 1, 1) := by decide +kernel
theorem dX7_over_17 : decode cX7_over 17 = .ok (.iload_n 2, 1) := by decide +kernel
theorem dX7_over_18 : decode cX7_over 18 = .ok (.if_icmp .ne 6, 3) := by decide +kernel
theorem dX7_over_21 : decode cX7_over 21 = .ok (.bipush (-2), 2) := by decide +kernel
theorem dX7_over_23 : decode cX7_over 23 = .ok (.ireturn, 1) := by decide +kernel
theorem dX7_over_24 : decode cX7_over 24 = .ok (.aload_n 0, 1) := by decide +kernel
theorem dX7_over_25 : decode cX7_over 25 = .ok (.getfield 116, 3) := by decide +kernel
theorem dX7_over_28 : decode cX7_over 28 = .ok (.bipush 16, 2) := by decide +kernel
theorem dX7_over_30 : decode cX7_over 30 = .ok (.if_icmp .ne 6, 3) := by decide +kernel
theorem dX7_over_33 : decode cX7_over 33 = .ok (.bipush (-4), 2) := by decide +kernel
theorem dX7_over_35 : decode cX7_over 35 = .ok (.ireturn, 1) := by decide +kernel
theorem dX7_over_36 : decode cX7_over 36 = .ok (.aload_n 0, 1) := by decide +kernel
theorem dX7_over_37 : decode cX7_over 37 = .ok (.getfield 19, 3) := by decide +kernel
theorem dX7_over_40 : decode cX7_over 40 = .ok (.aload_n 0, 1) := by decide +kernel
theorem dX7_over_41 : decode cX7_over 41 = .ok (.getfield 116, 3) := by decide +kernel
theorem dX7_over_44 : decode cX7_over 44 = .ok (.iload_n 1, 1) := by decide +kernel
theorem dX7_over_45 : decode cX7_over 45 = .ok (.iastore, 1) := by decide +kernel
theorem dX7_over_46 : decode cX7_over 46 = .ok (.aload_n 0, 1) := by decide +kernel
theorem dX7_over_47 : decode cX7_over 47 = .ok (.getfield 22, 3) := by decide +kernel
theorem dX7_over_50 : decode cX7_over 50 = .ok (.aload_n 0, 1) := by decide +kernel
theorem dX7_over_51 : decode cX7_over 51 = .ok (.getfield 116, 3) := by decide +kernel
theorem dX7_over_54 : decode cX7_over 54 = .ok (.iload_n 2, 1) := by decide +kernel
theorem dX7_over_55 : decode cX7_over 55 = .ok (.iastore, 1) := by decide +kernel
theorem dX7_over_56 : decode cX7_over 56 = .ok (.aload_n 0, 1) := by decide +kernel
theorem dX7_over_57 : decode cX7_over 57 = .ok (.dup, 1) := by decide +kernel
theorem dX7_over_58 : decode cX7_over 58 = .ok (.getfield 116, 3) := by decide +kernel
theorem dX7_over_61 : decode cX7_over 61 = .ok (.iconst 1, 1) := by decide +kernel
theorem dX7_over_62 : decode cX7_over 62 = .ok (.iadd, 1) := by decide +kernel
theorem dX7_over_63 : decode cX7_over 63 = .ok (.putfield 116, 3) := by decide +kernel
theorem dX7_over_66 : decode cX7_over 66 = .ok (.aload_n 0, 1) := by decide +kernel
theorem dX7_over_67 : decode cX7_over 67 = .ok (.iconst 0, 1) := by decide +kernel
theorem dX7_over_68 : decode cX7_over 68 = .ok (.putfield 102, 3) := by decide +kernel
theorem dX7_over_71 : decode cX7_over 71 = .ok (.aload_n 0, 1) := by decide +kernel
theorem dX7_over_72 : decode cX7_over 72 = .ok (.getfield 116, 3) := by decide +kernel
theorem dX7_over_75 : decode cX7_over 75 = .ok (.ireturn, 1) := by decide +kernel
theorem dX7_type_0 : decode cX7_type 0 = .ok (.iload_n 1, 1) := by decide +kernel
theorem dX7_type_1 : decode cX7_type 1 = .ok (.iconst 0, 1) := by decide +kernel
theorem dX7_type_2 : decode cX7_type 2 = .ok (.sipush 255, 3) := by decide +kernel
theorem dX7_type_5 : decode cX7_type 5 = .ok (.invokestatic 98, 3) := by decide +kernel
theorem dX7_type_8 : decode cX7_type 8 = .ok (.ifCond .ne 6, 3) := by decide +kernel
theorem dX7_type_11 : decode cX7_type 11 = .ok (.bipush (-2), 2) := by decide +kernel
theorem dX7_type_13 : decode cX7_type 13 = .ok (.ireturn, 1) := by decide +kernel
theorem dX7_type_14 : decode cX7_type 14 = .ok (.aload_n 0, 1) := by decide +kernel
theorem dX7_type_15 : decode cX7_type 15 = .ok (.getfield 119, 3) := by decide +kernel
theorem dX7_type_18 : decode cX7_type 18 = .ok (.bipush 40, 2) := by decide +kernel
theorem dX7_type_20 : decode cX7_type 20 = .ok (.if_icmp .ne 6, 3) := by decide +kernel
theorem dX7_type_23 : decode cX7_type 23 = .ok (.bipush (-4), 2) := by decide +kernel
theorem dX7_type_25 : decode cX7_type 25 = .ok (.ireturn, 1) := by decide +kernel
theorem dX7_type_26 : decode cX7_type 26 = .ok (.aload_n 0, 1) := by decide +kernel
theorem dX7_type_27 : decode cX7_type 27 = .ok (.getfield 41, 3) := by decide +kernel
theorem dX7_type_30 : decode cX7_type 30 = .ok (.aload_n 0, 1) := by decide +kernel
theorem dX7_type_31 : decode cX7_type 31 = .ok (.getfield 119, 3) := by decide +kernel
theorem dX7_type_34 : decode cX7_type 34 = .ok (.iload_n 1, 1) := by decide +kernel
theorem dX7_type_35 : decode cX7_type 35 = .ok (.iastore, 1) := by decide +kernel
theorem dX7_type_36 : decode cX7_type 36 = .ok (.aload_n 0, 1) := by decide +kernel
theorem dX7_type_37 : decode cX7_type 37 = .ok (.dup, 1) := by decide +kernel
theorem dX7_type_38 : decode cX7_type 38 = .ok (.getfield 119, 3) := by decide +kernel
theorem dX7_type_41 : decode cX7_type 41 = .ok (.iconst 1, 1) := by decide +kernel
theorem dX7_type_42 : decode cX7_type 42 = .ok (.iadd, 1) := by decide +kernel
theorem dX7_type_43 : decode cX7_type 43 = .ok (.putfield 119, 3) := by decide +kernel
theorem dX7_type_46 : decode cX7_type 46 = .ok (.aload_n 0, 1) := by decide +kernel
theorem dX7_type_47 : decode cX7_type 47 = .ok (.getfield 119, 3) := by decide +kernel
theorem dX7_type_50 : decode cX7_type 50 = .ok (.ireturn, 1) := by decide +kernel
theorem dX7_wipe_0 : decode cX7_wipe 0 = .ok (.aload_n 0, 1) := by decide +kernel
theorem dX7_wipe_1 : decode cX7_wipe 1 = .ok (.getfield 119, 3) := by decide +kernel
theorem dX7_wipe_4 : decode cX7_wipe 4 = .ok (.istore_n 1, 1) := by decide +kernel
theorem dX7_wipe_5 : decode cX7_wipe 5 = .ok (.aload_n 0, 1) := by decide +kernel
theorem dX7_wipe_6 : decode cX7_wipe 6 = .ok (.iconst 0, 1) := by decide +kernel
theorem dX7_wipe_7 : decode cX7_wipe 7 = .ok (.putfield 119, 3) := by decide +kernel
theorem dX7_wipe_10 : decode cX7_wipe 10 = .ok (.iload_n 1, 1) := by decide +kernel
theorem dX7_wipe_11 : decode cX7_wipe 11 = .ok (.ireturn, 1) := by decide +kernel
theorem dX7_byteAt_0 : decode cX7_byteAt 0 = .ok (.iload_n 1, 1) := by decide +kernel
theorem dX7_byteAt_1 : decode cX7_byteAt 1 = .ok (.aload_n 0, 1) := by decide +kernel
theorem dX7_byteAt_2 : decode cX7_byteAt 2 = .ok (.getfield 119, 3) := by decide +kernel
theorem dX7_byteAt_5 : decode cX7_byteAt 5 = .ok (.if_icmp .ge 12, 3) := by decide +kernel
theorem dX7_byteAt_8 : decode cX7_byteAt 8 = .ok (.aload_n 0, 1) := by decide +kernel
theorem dX7_byteAt_9 : decode cX7_byteAt 9 = .ok (.getfield 41, 3) := by decide +kernel
theorem dX7_byteAt_12 : decode cX7_byteAt 12 = .ok (.iload_n 1, 1) := by decide +kernel
theorem dX7_byteAt_13 : decode cX7_byteAt 13 = .ok (.iaload, 1) := by decide +kernel
theorem dX7_byteAt_14 : decode cX7_byteAt 14 = .ok (.goto 4, 3) := by decide +kernel
theorem dX7_byteAt_17 : decode cX7_byteAt 17 = .ok (.iconst (-1), 1) := by decide +kernel
theorem dX7_byteAt_18 : decode cX7_byteAt 18 = .ok (.ireturn, 1) := by decide +kernel
theorem dX7_faultNow_0 : decode cX7_faultNow 0 = .ok (.aload_n 0, 1) := by decide +kernel
theorem dX7_faultNow_1 : decode cX7_faultNow 1 = .ok (.iconst 0, 1) := by decide +kernel
theorem dX7_faultNow_2 : decode cX7_faultNow 2 = .ok (.putfield 122, 3) := by decide +kernel
theorem dX7_faultNow_5 : decode cX7_faultNow 5 = .ok (.iconst 0, 1) := by decide +kernel
theorem dX7_faultNow_6 : decode cX7_faultNow 6 = .ok (.istore_n 1, 1) := by decide +kernel
theorem dX7_faultNow_7 : decode cX7_faultNow 7 = .ok (.aload_n 0, 1) := by decide +kernel
theorem dX7_faultNow_8 : decode cX7_faultNow 8 = .ok (.iload_n 1, 1) := by decide +kernel
theorem dX7_faultNow_9 : decode cX7_faultNow 9 = .ok (.invokevirtual 125, 3) := by decide +kernel
theorem dX7_faultNow_12 : decode cX7_faultNow 12 = .ok (.bipush 48, 2) := by decide +kernel
theorem dX7_faultNow_14 : decode cX7_faultNow 14 = .ok (.isub, 1) := by decide +kernel
theorem dX7_faultNow_15 : decode cX7_faultNow 15 = .ok (.istore_n 2, 1) := by decide +kernel
theorem dX7_faultNow_16 : decode cX7_faultNow 16 = .ok (.aload_n 0, 1) := by decide +kernel
theorem dX7_faultNow_17 : decode cX7_faultNow 17 = .ok (.iload_n 2, 1) := by decide +kernel
theorem dX7_faultNow_18 : decode cX7_faultNow 18 = .ok (.invokevirtual 106, 3) := by decide +kernel
theorem dX7_faultNow_21 : decode cX7_faultNow 21 = .ok (.ifCond .ne 5, 3) := by decide +kernel
theorem dX7_faultNow_24 : decode cX7_faultNow 24 = .ok (.iload_n 1, 1) := by decide +kernel
theorem dX7_faultNow_25 : decode cX7_faultNow 25 = .ok (.ireturn, 1) := by decide +kernel
theorem dX7_faultNow_26 : decode cX7_faultNow 26 = .ok (.iinc 1 1, 3) := by decide +kernel
theorem dX7_faultNow_29 : decode cX7_faultNow 29 = .ok (.aload_n 0, 1) := by decide +kernel
theorem dX7_faultNow_30 : decode cX7_faultNow 30 = .ok (.iload_n 1, 1) := by decide +kernel
theorem dX7_faultNow_31 : decode cX7_faultNow 31 = .ok (.invokevirtual 125, 3) := by decide +kernel
theorem dX7_faultNow_34 : decode cX7_faultNow 34 = .ok (.bipush 58, 2) := by decide +kernel
theorem dX7_faultNow_36 : decode cX7_faultNow 36 = .ok (.if_icmp .eq 5, 3) := by decide +kernel
theorem dX7_faultNow_39 : decode cX7_faultNow 39 = .ok (.iload_n 1, 1) := by decide +kernel
theorem dX7_faultNow_40 : decode cX7_faultNow 40 = .ok (.ireturn, 1) := by decide +kernel
theorem dX7_faultNow_41 : decode cX7_faultNow 41 = .ok (.bipush 44, 2) := by decide +kernel
theorem dX7_faultNow_43 : decode cX7_faultNow 43 = .ok (.istore_n 3, 1) := by decide +kernel
theorem dX7_faultNow_44 : decode cX7_faultNow 44 = .ok (.iinc 1 1, 3) := by decide +kernel
theorem dX7_faultNow_47 : decode cX7_faultNow 47 = .ok (.iload_n 3, 1) := by decide +kernel
theorem dX7_faultNow_48 : decode cX7_faultNow 48 = .ok (.bipush 44, 2) := by decide +kernel
theorem dX7_faultNow_50 : decode cX7_faultNow 50 = .ok (.if_icmp .ne 128, 3) := by decide +kernel
theorem dX7_faultNow_53 : decode cX7_faultNow 53 = .ok (.aload_n 0, 1) := by decide +kernel
theorem dX7_faultNow_54 : decode cX7_faultNow 54 = .ok (.iload_n 1, 1) := by decide +kernel
theorem dX7_faultNow_55 : decode cX7_faultNow 55 = .ok (.invokevirtual 125, 3) := by decide +kernel
theorem dX7_faultNow_58 : decode cX7_faultNow 58 = .ok (.bipush 45, 2) := by decide +kernel
theorem dX7_faultNow_60 : decode cX7_faultNow 60 = .ok (.if_icmp .ne 7, 3) := by decide +kernel
theorem dX7_faultNow_63 : decode cX7_faultNow 63 = .ok (.iconst 0, 1) := by decide +kernel
theorem dX7_faultNow_64 : decode cX7_faultNow 64 = .ok (.goto 4, 3) := by decide +kernel
theorem dX7_faultNow_67 : decode cX7_faultNow 67 = .ok (.iconst 1, 1) := by decide +kernel
theorem dX7_faultNow_68 : decode cX7_faultNow 68 = .ok (.istore 4, 2) := by decide +kernel
theorem dX7_faultNow_70 : decode cX7_faultNow 70 = .ok (.iload_n 1, 1) := by decide +kernel
theorem dX7_faultNow_71 : decode cX7_faultNow 71 = .ok (.iconst 1, 1) := by decide +kernel
theorem dX7_faultNow_72 : decode cX7_faultNow 72 = .ok (.iload 4, 2) := by decide +kernel
theorem dX7_faultNow_74 : decode cX7_faultNow 74 = .ok (.isub, 1) := by decide +kernel
