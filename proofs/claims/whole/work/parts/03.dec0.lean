theorem dX0_init_0 : decode cX0_init 0 = .ok (.aload_n 0, 1) := by decide +kernel
theorem dX0_init_1 : decode cX0_init 1 = .ok (.invokespecial 3, 3) := by decide +kernel
theorem dX0_init_4 : decode cX0_init 4 = .ok (.aload_n 0, 1) := by decide +kernel
theorem dX0_init_5 : decode cX0_init 5 = .ok (.bipush 60, 2) := by decide +kernel
theorem dX0_init_7 : decode cX0_init 7 = .ok (.newarray .int, 2) := by decide +kernel
theorem dX0_init_9 : decode cX0_init 9 = .ok (.putfield 9, 3) := by decide +kernel
theorem dX0_init_12 : decode cX0_init 12 = .ok (.aload_n 0, 1) := by decide +kernel
theorem dX0_init_13 : decode cX0_init 13 = .ok (.bipush 60, 2) := by decide +kernel
theorem dX0_init_15 : decode cX0_init 15 = .ok (.newarray .int, 2) := by decide +kernel
theorem dX0_init_17 : decode cX0_init 17 = .ok (.putfield 15, 3) := by decide +kernel
theorem dX0_init_20 : decode cX0_init 20 = .ok (.aload_n 0, 1) := by decide +kernel
theorem dX0_init_21 : decode cX0_init 21 = .ok (.bipush 60, 2) := by decide +kernel
theorem dX0_init_23 : decode cX0_init 23 = .ok (.newarray .int, 2) := by decide +kernel
theorem dX0_init_25 : decode cX0_init 25 = .ok (.putfield 18, 3) := by decide +kernel
theorem dX0_init_28 : decode cX0_init 28 = .ok (.aload_n 0, 1) := by decide +kernel
theorem dX0_init_29 : decode cX0_init 29 = .ok (.bipush 60, 2) := by decide +kernel
theorem dX0_init_31 : decode cX0_init 31 = .ok (.newarray .boolean, 2) := by decide +kernel
theorem dX0_init_33 : decode cX0_init 33 = .ok (.putfield 21, 3) := by decide +kernel
theorem dX0_init_36 : decode cX0_init 36 = .ok (.aload_n 0, 1) := by decide +kernel
theorem dX0_init_37 : decode cX0_init 37 = .ok (.iconst 0, 1) := by decide +kernel
theorem dX0_init_38 : decode cX0_init 38 = .ok (.putfield 25, 3) := by decide +kernel
theorem dX0_init_41 : decode cX0_init 41 = .ok (.return_, 1) := by decide +kernel
theorem dX0_timeBefore_0 : decode cX0_timeBefore 0 = .ok (.aload_n 0, 1) := by decide +kernel
theorem dX0_timeBefore_1 : decode cX0_timeBefore 1 = .ok (.getfield 25, 3) := by decide +kernel
theorem dX0_timeBefore_4 : decode cX0_timeBefore 4 = .ok (.ifCond .le 17, 3) := by decide +kernel
theorem dX0_timeBefore_7 : decode cX0_timeBefore 7 = .ok (.aload_n 0, 1) := by decide +kernel
theorem dX0_timeBefore_8 : decode cX0_timeBefore 8 = .ok (.getfield 9, 3) := by decide +kernel
theorem dX0_timeBefore_11 : decode cX0_timeBefore 11 = .ok (.aload_n 0, 1) := by decide +kernel
theorem dX0_timeBefore_12 : decode cX0_timeBefore 12 = .ok (.getfield 25, 3) := by decide +kernel
theorem dX0_timeBefore_15 : decode cX0_timeBefore 15 = .ok (.iconst 1, 1) := by decide +kernel
theorem dX0_timeBefore_16 : decode cX0_timeBefore 16 = .ok (.isub, 1) := by decide +kernel
theorem dX0_timeBefore_17 : decode cX0_timeBefore 17 = .ok (.iaload, 1) := by decide +kernel
theorem dX0_timeBefore_18 : decode cX0_timeBefore 18 = .ok (.goto 4, 3) := by decide +kernel
theorem dX0_timeBefore_21 : decode cX0_timeBefore 21 = .ok (.iconst 0, 1) := by decide +kernel
theorem dX0_timeBefore_22 : decode cX0_timeBefore 22 = .ok (.ireturn, 1) := by decide +kernel
theorem dX0_keep_0 : decode cX0_keep 0 = .ok (.aload_n 0, 1) := by decide +kernel
theorem dX0_keep_1 : decode cX0_keep 1 = .ok (.getfield 25, 3) := by decide +kernel
theorem dX0_keep_4 : decode cX0_keep 4 = .ok (.bipush 60, 2) := by decide +kernel
theorem dX0_keep_6 : decode cX0_keep 6 = .ok (.if_icmp .lt 5, 3) := by decide +kernel
theorem dX0_keep_9 : decode cX0_keep 9 = .ok (.iconst 0, 1) := by decide +kernel
theorem dX0_keep_10 : decode cX0_keep 10 = .ok (.ireturn, 1) := by decide +kernel
theorem dX0_keep_11 : decode cX0_keep 11 = .ok (.aload_n 0, 1) := by decide +kernel
theorem dX0_keep_12 : decode cX0_keep 12 = .ok (.getfield 9, 3) := by decide +kernel
theorem dX0_keep_15 : decode cX0_keep 15 = .ok (.aload_n 0, 1) := by decide +kernel
theorem dX0_keep_16 : decode cX0_keep 16 = .ok (.getfield 25, 3) := by decide +kernel
theorem dX0_keep_19 : decode cX0_keep 19 = .ok (.iload_n 1, 1) := by decide +kernel
theorem dX0_keep_20 : decode cX0_keep 20 = .ok (.iastore, 1) := by decide +kernel
theorem dX0_keep_21 : decode cX0_keep 21 = .ok (.aload_n 0, 1) := by decide +kernel
theorem dX0_keep_22 : decode cX0_keep 22 = .ok (.getfield 15, 3) := by decide +kernel
theorem dX0_keep_25 : decode cX0_keep 25 = .ok (.aload_n 0, 1) := by decide +kernel
theorem dX0_keep_26 : decode cX0_keep 26 = .ok (.getfield 25, 3) := by decide +kernel
theorem dX0_keep_29 : decode cX0_keep 29 = .ok (.iload_n 2, 1) := by decide +kernel
theorem dX0_keep_30 : decode cX0_keep 30 = .ok (.iastore, 1) := by decide +kernel
theorem dX0_keep_31 : decode cX0_keep 31 = .ok (.aload_n 0, 1) := by decide +kernel
theorem dX0_keep_32 : decode cX0_keep 32 = .ok (.getfield 18, 3) := by decide +kernel
theorem dX0_keep_35 : decode cX0_keep 35 = .ok (.aload_n 0, 1) := by decide +kernel
theorem dX0_keep_36 : decode cX0_keep 36 = .ok (.getfield 25, 3) := by decide +kernel
theorem dX0_keep_39 : decode cX0_keep 39 = .ok (.iload_n 3, 1) := by decide +kernel
theorem dX0_keep_40 : decode cX0_keep 40 = .ok (.iastore, 1) := by decide +kernel
theorem dX0_keep_41 : decode cX0_keep 41 = .ok (.aload_n 0, 1) := by decide +kernel
theorem dX0_keep_42 : decode cX0_keep 42 = .ok (.getfield 21, 3) := by decide +kernel
theorem dX0_keep_45 : decode cX0_keep 45 = .ok (.aload_n 0, 1) := by decide +kernel
theorem dX0_keep_46 : decode cX0_keep 46 = .ok (.getfield 25, 3) := by decide +kernel
theorem dX0_keep_49 : decode cX0_keep 49 = .ok (.iload 4, 2) := by decide +kernel
theorem dX0_keep_51 : decode cX0_keep 51 = .ok (.bastore, 1) := by decide +kernel
theorem dX0_keep_52 : decode cX0_keep 52 = .ok (.aload_n 0, 1) := by decide +kernel
theorem dX0_keep_53 : decode cX0_keep 53 = .ok (.dup, 1) := by decide +kernel
theorem dX0_keep_54 : decode cX0_keep 54 = .ok (.getfield 25, 3) := by decide +kernel
theorem dX0_keep_57 : decode cX0_keep 57 = .ok (.iconst 1, 1) := by decide +kernel
theorem dX0_keep_58 : decode cX0_keep 58 = .ok (.iadd, 1) := by decide +kernel
theorem dX0_keep_59 : decode cX0_keep 59 = .ok (.putfield 25, 3) := by decide +kernel
theorem dX0_keep_62 : decode cX0_keep 62 = .ok (.iconst 1, 1) := by decide +kernel
theorem dX0_keep_63 : decode cX0_keep 63 = .ok (.ireturn, 1) := by decide +kernel
theorem dX0_layInto_0 : decode cX0_layInto 0 = .ok (.iconst 0, 1) := by decide +kernel
theorem dX0_layInto_1 : decode cX0_layInto 1 = .ok (.istore_n 3, 1) := by decide +kernel
theorem dX0_layInto_2 : decode cX0_layInto 2 = .ok (.iload_n 3, 1) := by decide +kernel
theorem dX0_layInto_3 : decode cX0_layInto 3 = .ok (.bipush 8, 2) := by decide +kernel
theorem dX0_layInto_5 : decode cX0_layInto 5 = .ok (.if_icmp .ge 13, 3) := by decide +kernel
theorem dX0_layInto_8 : decode cX0_layInto 8 = .ok (.aload_n 1, 1) := by decide +kernel
theorem dX0_layInto_9 : decode cX0_layInto 9 = .ok (.iload_n 3, 1) := by decide +kernel
theorem dX0_layInto_10 : decode cX0_layInto 10 = .ok (.iconst 0, 1) := by decide +kernel
theorem dX0_layInto_11 : decode cX0_layInto 11 = .ok (.iastore, 1) := by decide +kernel
theorem dX0_layInto_12 : decode cX0_layInto 12 = .ok (.iinc 3 1, 3) := by decide +kernel
theorem dX0_layInto_15 : decode cX0_layInto 15 = .ok (.goto (-13), 3) := by decide +kernel
theorem dX0_layInto_18 : decode cX0_layInto 18 = .ok (.iconst 0, 1) := by decide +kernel
theorem dX0_layInto_19 : decode cX0_layInto 19 = .ok (.istore_n 3, 1) := by decide +kernel
theorem dX0_layInto_20 : decode cX0_layInto 20 = .ok (.iload_n 3, 1) := by decide +kernel
theorem dX0_layInto_21 : decode cX0_layInto 21 = .ok (.aload_n 0, 1) := by decide +kernel
theorem dX0_layInto_22 : decode cX0_layInto 22 = .ok (.getfield 25, 3) := by decide +kernel
theorem dX0_layInto_25 : decode cX0_layInto 25 = .ok (.if_icmp .ge 71, 3) := by decide +kernel
theorem dX0_layInto_28 : decode cX0_layInto 28 = .ok (.aload_n 0, 1) := by decide +kernel
theorem dX0_layInto_29 : decode cX0_layInto 29 = .ok (.getfield 9, 3) := by decide +kernel
theorem dX0_layInto_32 : decode cX0_layInto 32 = .ok (.iload_n 3, 1) := by decide +kernel
theorem dX0_layInto_33 : decode cX0_layInto 33 = .ok (.iaload, 1) := by decide +kernel
theorem dX0_layInto_34 : decode cX0_layInto 34 = .ok (.iload_n 2, 1) := by decide +kernel
theorem dX0_layInto_35 : decode cX0_layInto 35 = .ok (.if_icmp .gt 61, 3) := by decide +kernel
theorem dX0_layInto_38 : decode cX0_layInto 38 = .ok (.iconst 1, 1) := by decide +kernel
theorem dX0_layInto_39 : decode cX0_layInto 39 = .ok (.aload_n 0, 1) := by decide +kernel
theorem dX0_layInto_40 : decode cX0_layInto 40 = .ok (.getfield 18, 3) := by decide +kernel
theorem dX0_layInto_43 : decode cX0_layInto 43 = .ok (.iload_n 3, 1) := by decide +kernel
theorem dX0_layInto_44 : decode cX0_layInto 44 = .ok (.iaload, 1) := by decide +kernel
theorem dX0_layInto_45 : decode cX0_layInto 45 = .ok (.ishl, 1) := by decide +kernel
theorem dX0_layInto_46 : decode cX0_layInto 46 = .ok (.istore 4, 2) := by decide +kernel
theorem dX0_layInto_48 : decode cX0_layInto 48 = .ok (.aload_n 1, 1) := by decide +kernel
theorem dX0_layInto_49 : decode cX0_layInto 49 = .ok (.aload_n 0, 1) := by decide +kernel
theorem dX0_layInto_50 : decode cX0_layInto 50 = .ok (.getfield 15, 3) := by decide +kernel
theorem dX0_layInto_53 : decode cX0_layInto 53 = .ok (.iload_n 3, 1) := by decide +kernel
theorem dX0_layInto_54 : decode cX0_layInto 54 = .ok (.iaload, 1) := by decide +kernel
theorem dX0_layInto_55 : decode cX0_layInto 55 = .ok (.iaload, 1) := by decide +kernel
theorem dX0_layInto_56 : decode cX0_layInto 56 = .ok (.istore 5, 2) := by decide +kernel
theorem dX0_layInto_58 : decode cX0_layInto 58 = .ok (.aload_n 1, 1) := by decide +kernel
theorem dX0_layInto_59 : decode cX0_layInto 59 = .ok (.aload_n 0, 1) := by decide +kernel
theorem dX0_layInto_60 : decode cX0_layInto 60 = .ok (.getfield 15, 3) := by decide +kernel
theorem dX0_layInto_63 : decode cX0_layInto 63 = .ok (.iload_n 3, 1) := by decide +kernel
theorem dX0_layInto_64 : decode cX0_layInto 64 = .ok (.iaload, 1) := by decide +kernel
theorem dX0_layInto_65 : decode cX0_layInto 65 = .ok (.aload_n 0, 1) := by decide +kernel
theorem dX0_layInto_66 : decode cX0_layInto 66 = .ok (.getfield 21, 3) := by decide +kernel
theorem dX0_layInto_69 : decode cX0_layInto 69 = .ok (.iload_n 3, 1) := by decide +kernel
theorem dX0_layInto_70 : decode cX0_layInto 70 = .ok (.baload, 1) := by decide +kernel
theorem dX0_layInto_71 : decode cX0_layInto 71 = .ok (.ifCond .eq 11, 3) := by decide +kernel
theorem dX0_layInto_74 : decode cX0_layInto 74 = .ok (.iload 5, 2) := by decide +kernel
theorem dX0_layInto_76 : decode cX0_layInto 76 = .ok (.iload 4, 2) := by decide +kernel
theorem dX0_layInto_78 : decode cX0_layInto 78 = .ok (.ior, 1) := by decide +kernel
theorem dX0_layInto_79 : decode cX0_layInto 79 = .ok (.goto 10, 3) := by decide +kernel
theorem dX0_layInto_82 : decode cX0_layInto 82 = .ok (.iload 5, 2) := by decide +kernel
theorem dX0_layInto_84 : decode cX0_layInto 84 = .ok (.iload 4, 2) := by decide +kernel
theorem dX0_layInto_86 : decode cX0_layInto 86 = .ok (.iconst (-1), 1) := by decide +kernel
theorem dX0_layInto_87 : decode cX0_layInto 87 = .ok (.ixor, 1) := by decide +kernel
theorem dX0_layInto_88 : decode cX0_layInto 88 = .ok (.iand, 1) := by decide +kernel
theorem dX0_layInto_89 : decode cX0_layInto 89 = .ok (.iastore, 1) := by decide +kernel
theorem dX0_layInto_90 : decode cX0_layInto 90 = .ok (.iinc 3 1, 3) := by decide +kernel
theorem dX0_layInto_93 : decode cX0_layInto 93 = .ok (.goto (-73), 3) := by decide +kernel
theorem dX0_layInto_96 : decode cX0_layInto 96 = .ok (.return_, 1) := by decide +kernel
theorem dX1_init_0 : decode cX1_init 0 = .ok (.aload_n 0, 1) := by decide +kernel
theorem dX1_init_1 : decode cX1_init 1 = .ok (.invokespecial 3, 3) := by decide +kernel
theorem dX1_init_4 : decode cX1_init 4 = .ok (.aload_n 0, 1) := by decide +kernel
theorem dX1_init_5 : decode cX1_init 5 = .ok (.bipush 8, 2) := by decide +kernel
theorem dX1_init_7 : decode cX1_init 7 = .ok (.newarray .int, 2) := by decide +kernel
theorem dX1_init_9 : decode cX1_init 9 = .ok (.putfield 9, 3) := by decide +kernel
theorem dX1_init_12 : decode cX1_init 12 = .ok (.aload_n 0, 1) := by decide +kernel
theorem dX1_init_13 : decode cX1_init 13 = .ok (.bipush 9, 2) := by decide +kernel
theorem dX1_init_15 : decode cX1_init 15 = .ok (.newarray .int, 2) := by decide +kernel
theorem dX1_init_17 : decode cX1_init 17 = .ok (.putfield 15, 3) := by decide +kernel
theorem dX1_init_20 : decode cX1_init 20 = .ok (.aload_n 0, 1) := by decide +kernel
theorem dX1_init_21 : decode cX1_init 21 = .ok (.aload_n 1, 1) := by decide +kernel
theorem dX1_init_22 : decode cX1_init 22 = .ok (.putfield 18, 3) := by decide +kernel
theorem dX1_init_25 : decode cX1_init 25 = .ok (.aload_n 0, 1) := by decide +kernel
theorem dX1_init_26 : decode cX1_init 26 = .ok (.aload_n 2, 1) := by decide +kernel
theorem dX1_init_27 : decode cX1_init 27 = .ok (.putfield 22, 3) := by decide +kernel
theorem dX1_init_30 : decode cX1_init 30 = .ok (.return_, 1) := by decide +kernel
theorem dX1_hasAt_0 : decode cX1_hasAt 0 = .ok (.aload_n 0, 1) := by decide +kernel
theorem dX1_hasAt_1 : decode cX1_hasAt 1 = .ok (.getfield 18, 3) := by decide +kernel
theorem dX1_hasAt_4 : decode cX1_hasAt 4 = .ok (.getfield 25, 3) := by decide +kernel
theorem dX1_hasAt_7 : decode cX1_hasAt 7 = .ok (.aload_n 0, 1) := by decide +kernel
theorem dX1_hasAt_8 : decode cX1_hasAt 8 = .ok (.getfield 22, 3) := by decide +kernel
theorem dX1_hasAt_11 : decode cX1_hasAt 11 = .ok (.iload_n 1, 1) := by decide +kernel
theorem dX1_hasAt_12 : decode cX1_hasAt 12 = .ok (.iaload, 1) := by decide +kernel
theorem dX1_hasAt_13 : decode cX1_hasAt 13 = .ok (.iaload, 1) := by decide +kernel
theorem dX1_hasAt_14 : decode cX1_hasAt 14 = .ok (.iload_n 2, 1) := by decide +kernel
theorem dX1_hasAt_15 : decode cX1_hasAt 15 = .ok (.ishr, 1) := by decide +kernel
theorem dX1_hasAt_16 : decode cX1_hasAt 16 = .ok (.iconst 1, 1) := by decide +kernel
theorem dX1_hasAt_17 : decode cX1_hasAt 17 = .ok (.iand, 1) := by decide +kernel
theorem dX1_hasAt_18 : decode cX1_hasAt 18 = .ok (.ifCond .eq 7, 3) := by decide +kernel
theorem dX1_hasAt_21 : decode cX1_hasAt 21 = .ok (.iconst 1, 1) := by decide +kernel
theorem dX1_hasAt_22 : decode cX1_hasAt 22 = .ok (.goto 4, 3) := by decide +kernel
theorem dX1_hasAt_25 : decode cX1_hasAt 25 = .ok (.iconst 0, 1) := by decide +kernel
theorem dX1_hasAt_26 : decode cX1_hasAt 26 = .ok (.ireturn, 1) := by decide +kernel
theorem dX1_robbedAt_0 : decode cX1_robbedAt 0 = .ok (.aload_n 0, 1) := by decide +kernel
theorem dX1_robbedAt_1 : decode cX1_robbedAt 1 = .ok (.getfield 18, 3) := by decide +kernel
theorem dX1_robbedAt_4 : decode cX1_robbedAt 4 = .ok (.getfield 30, 3) := by decide +kernel
theorem dX1_robbedAt_7 : decode cX1_robbedAt 7 = .ok (.aload_n 0, 1) := by decide +kernel
theorem dX1_robbedAt_8 : decode cX1_robbedAt 8 = .ok (.getfield 22, 3) := by decide +kernel
theorem dX1_robbedAt_11 : decode cX1_robbedAt 11 = .ok (.iload_n 1, 1) := by decide +kernel
theorem dX1_robbedAt_12 : decode cX1_robbedAt 12 = .ok (.iaload, 1) := by decide +kernel
theorem dX1_robbedAt_13 : decode cX1_robbedAt 13 = .ok (.ishr, 1) := by decide +kernel
theorem dX1_robbedAt_14 : decode cX1_robbedAt 14 = .ok (.iconst 1, 1) := by decide +kernel
theorem dX1_robbedAt_15 : decode cX1_robbedAt 15 = .ok (.iand, 1) := by decide +kernel
theorem dX1_robbedAt_16 : decode cX1_robbedAt 16 = .ok (.ifCond .eq 7, 3) := by decide +kernel
theorem dX1_robbedAt_19 : decode cX1_robbedAt 19 = .ok (.iconst 1, 1) := by decide +kernel
theorem dX1_robbedAt_20 : decode cX1_robbedAt 20 = .ok (.goto 4, 3) := by decide +kernel
theorem dX1_robbedAt_23 : decode cX1_robbedAt 23 = .ok (.iconst 0, 1) := by decide +kernel
theorem dX1_robbedAt_24 : decode cX1_robbedAt 24 = .ok (.ireturn, 1) := by decide +kernel
theorem dX1_placeOf_0 : decode cX1_placeOf 0 = .ok (.iconst 0, 1) := by decide +kernel
theorem dX1_placeOf_1 : decode cX1_placeOf 1 = .ok (.istore_n 2, 1) := by decide +kernel
theorem dX1_placeOf_2 : decode cX1_placeOf 2 = .ok (.iconst 0, 1) := by decide +kernel
theorem dX1_placeOf_3 : decode cX1_placeOf 3 = .ok (.istore_n 3, 1) := by decide +kernel
theorem dX1_placeOf_4 : decode cX1_placeOf 4 = .ok (.iload_n 3, 1) := by decide +kernel
theorem dX1_placeOf_5 : decode cX1_placeOf 5 = .ok (.aload_n 0, 1) := by decide +kernel
theorem dX1_placeOf_6 : decode cX1_placeOf 6 = .ok (.getfield 18, 3) := by decide +kernel
theorem dX1_placeOf_9 : decode cX1_placeOf 9 = .ok (.getfield 34, 3) := by decide +kernel
theorem dX1_placeOf_12 : decode cX1_placeOf 12 = .ok (.if_icmp .ge 25, 3) := by decide +kernel
theorem dX1_placeOf_15 : decode cX1_placeOf 15 = .ok (.aload_n 0, 1) := by decide +kernel
theorem dX1_placeOf_16 : decode cX1_placeOf 16 = .ok (.getfield 22, 3) := by decide +kernel
theorem dX1_placeOf_19 : decode cX1_placeOf 19 = .ok (.iload_n 3, 1) := by decide +kernel
theorem dX1_placeOf_20 : decode cX1_placeOf 20 = .ok (.iaload, 1) := by decide +kernel
theorem dX1_placeOf_21 : decode cX1_placeOf 21 = .ok (.iload_n 1, 1) := by decide +kernel
theorem dX1_placeOf_22 : decode cX1_placeOf 22 = .ok (.if_icmp .ne 7, 3) := by decide +kernel
theorem dX1_placeOf_25 : decode cX1_placeOf 25 = .ok (.iload_n 3, 1) := by decide +kernel
theorem dX1_placeOf_26 : decode cX1_placeOf 26 = .ok (.goto 4, 3) := by decide +kernel
theorem dX1_placeOf_29 : decode cX1_placeOf 29 = .ok (.iload_n 2, 1) := by decide +kernel
theorem dX1_placeOf_30 : decode cX1_placeOf 30 = .ok (.istore_n 2, 1) := by decide +kernel
theorem dX1_placeOf_31 : decode cX1_placeOf 31 = .ok (.iinc 3 1, 3) := by decide +kernel
theorem dX1_placeOf_34 : decode cX1_placeOf 34 = .ok (.goto (-30), 3) := by decide +kernel
theorem dX1_placeOf_37 : decode cX1_placeOf 37 = .ok (.iload_n 2, 1) := by decide +kernel
theorem dX1_placeOf_38 : decode cX1_placeOf 38 = .ok (.ireturn, 1) := by decide +kernel
theorem dX1_turnedCanBe_0 : decode cX1_turnedCanBe 0 = .ok (.iconst 0, 1) := by decide +kernel
theorem dX1_turnedCanBe_1 : decode cX1_turnedCanBe 1 = .ok (.istore_n 1, 1) := by decide +kernel
theorem dX1_turnedCanBe_2 : decode cX1_turnedCanBe 2 = .ok (.iload_n 1, 1) := by decide +kernel
theorem dX1_turnedCanBe_3 : decode cX1_turnedCanBe 3 = .ok (.aload_n 0, 1) := by decide +kernel
theorem dX1_turnedCanBe_4 : decode cX1_turnedCanBe 4 = .ok (.getfield 18, 3) := by decide +kernel
theorem dX1_turnedCanBe_7 : decode cX1_turnedCanBe 7 = .ok (.getfield 34, 3) := by decide +kernel
theorem dX1_turnedCanBe_10 : decode cX1_turnedCanBe 10 = .ok (.if_icmp .ge 31, 3) := by decide +kernel
theorem dX1_turnedCanBe_13 : decode cX1_turnedCanBe 13 = .ok (.aload_n 0, 1) := by decide +kernel
theorem dX1_turnedCanBe_14 : decode cX1_turnedCanBe 14 = .ok (.getfield 9, 3) := by decide +kernel
theorem dX1_turnedCanBe_17 : decode cX1_turnedCanBe 17 = .ok (.iload_n 1, 1) := by decide +kernel
theorem dX1_turnedCanBe_18 : decode cX1_turnedCanBe 18 = .ok (.aload_n 0, 1) := by decide +kernel
theorem dX1_turnedCanBe_19 : decode cX1_turnedCanBe 19 = .ok (.getfield 22, 3) := by decide +kernel
theorem dX1_turnedCanBe_22 : decode cX1_turnedCanBe 22 = .ok (.aload_n 0, 1) := by decide +kernel
theorem dX1_turnedCanBe_23 : decode cX1_turnedCanBe 23 = .ok (.getfield 18, 3) := by decide +kernel
theorem dX1_turnedCanBe_26 : decode cX1_turnedCanBe 26 = .ok (.getfield 34, 3) := by decide +kernel
theorem dX1_turnedCanBe_29 : decode cX1_turnedCanBe 29 = .ok (.iconst 1, 1) := by decide +kernel
theorem dX1_turnedCanBe_30 : decode cX1_turnedCanBe 30 = .ok (.isub, 1) := by decide +kernel
theorem dX1_turnedCanBe_31 : decode cX1_turnedCanBe 31 = .ok (.iload_n 1, 1) := by decide +kernel
theorem dX1_turnedCanBe_32 : decode cX1_turnedCanBe 32 = .ok (.isub, 1) := by decide +kernel
theorem dX1_turnedCanBe_33 : decode cX1_turnedCanBe 33 = .ok (.iaload, 1) := by decide +kernel
theorem dX1_turnedCanBe_34 : decode cX1_turnedCanBe 34 = .ok (.iastore, 1) := by decide +kernel
theorem dX1_turnedCanBe_35 : decode cX1_turnedCanBe 35 = .ok (.iinc 1 1, 3) := by decide +kernel
theorem dX1_turnedCanBe_38 : decode cX1_turnedCanBe 38 = .ok (.goto (-36), 3) := by decide +kernel
theorem dX1_turnedCanBe_41 : decode cX1_turnedCanBe 41 = .ok (.aload_n 0, 1) := by decide +kernel
theorem dX1_turnedCanBe_42 : decode cX1_turnedCanBe 42 = .ok (.getfield 18, 3) := by decide +kernel
theorem dX1_turnedCanBe_45 : decode cX1_turnedCanBe 45 = .ok (.aload_n 0, 1) := by decide +kernel
theorem dX1_turnedCanBe_46 : decode cX1_turnedCanBe 46 = .ok (.getfield 9, 3) := by decide +kernel
theorem dX1_turnedCanBe_49 : decode cX1_turnedCanBe 49 = .ok (.invokevirtual 37, 3) := by decide +kernel
theorem dX1_turnedCanBe_52 : decode cX1_turnedCanBe 52 = .ok (.ireturn, 1) := by decide +kernel
theorem dX1_gapsOfOrder_0 : decode cX1_gapsOfOrder 0 = .ok (.iconst 0, 1) := by decide +kernel
theorem dX1_gapsOfOrder_1 : decode cX1_gapsOfOrder 1 = .ok (.istore_n 2, 1) := by decide +kernel
theorem dX1_gapsOfOrder_2 : decode cX1_gapsOfOrder 2 = .ok (.iconst 0, 1) := by decide +kernel
theorem dX1_gapsOfOrder_3 : decode cX1_gapsOfOrder 3 = .ok (.istore_n 3, 1) := by decide +kernel
theorem dX1_gapsOfOrder_4 : decode cX1_gapsOfOrder 4 = .ok (.iload_n 3, 1) := by decide +kernel
theorem dX1_gapsOfOrder_5 : decode cX1_gapsOfOrder 5 = .ok (.aload_n 0, 1) := by decide +kernel
theorem dX1_gapsOfOrder_6 : decode cX1_gapsOfOrder 6 = .ok (.getfield 18, 3) := by decide +kernel
theorem dX1_gapsOfOrder_9 : decode cX1_gapsOfOrder 9 = .ok (.getfield 34, 3) := by decide +kernel
theorem dX1_gapsOfOrder_12 : decode cX1_gapsOfOrder 12 = .ok (.if_icmp .ge 44, 3) := by decide +kernel
theorem dX1_gapsOfOrder_15 : decode cX1_gapsOfOrder 15 = .ok (.aload_n 0, 1) := by decide +kernel
theorem dX1_gapsOfOrder_16 : decode cX1_gapsOfOrder 16 = .ok (.getfield 15, 3) := by decide +kernel
theorem dX1_gapsOfOrder_19 : decode cX1_gapsOfOrder 19 = .ok (.iload_n 3, 1) := by decide +kernel
theorem dX1_gapsOfOrder_20 : decode cX1_gapsOfOrder 20 = .ok (.aload_n 0, 1) := by decide +kernel
theorem dX1_gapsOfOrder_21 : decode cX1_gapsOfOrder 21 = .ok (.getfield 18, 3) := by decide +kernel
theorem dX1_gapsOfOrder_24 : decode cX1_gapsOfOrder 24 = .ok (.getfield 25, 3) := by decide +kernel
theorem dX1_gapsOfOrder_27 : decode cX1_gapsOfOrder 27 = .ok (.aload_n 1, 1) := by decide +kernel
theorem dX1_gapsOfOrder_28 : decode cX1_gapsOfOrder 28 = .ok (.iload_n 3, 1) := by decide +kernel
theorem dX1_gapsOfOrder_29 : decode cX1_gapsOfOrder 29 = .ok (.iaload, 1) := by decide +kernel
theorem dX1_gapsOfOrder_30 : decode cX1_gapsOfOrder 30 = .ok (.iaload, 1) := by decide +kernel
theorem dX1_gapsOfOrder_31 : decode cX1_gapsOfOrder 31 = .ok (.iastore, 1) := by decide +kernel
theorem dX1_gapsOfOrder_32 : decode cX1_gapsOfOrder 32 = .ok (.iload_n 2, 1) := by decide +kernel
theorem dX1_gapsOfOrder_33 : decode cX1_gapsOfOrder 33 = .ok (.aload_n 0, 1) := by decide +kernel
theorem dX1_gapsOfOrder_34 : decode cX1_gapsOfOrder 34 = .ok (.getfield 18, 3) := by decide +kernel
theorem dX1_gapsOfOrder_37 : decode cX1_gapsOfOrder 37 = .ok (.getfield 30, 3) := by decide +kernel
theorem dX1_gapsOfOrder_40 : decode cX1_gapsOfOrder 40 = .ok (.aload_n 1, 1) := by decide +kernel
theorem dX1_gapsOfOrder_41 : decode cX1_gapsOfOrder 41 = .ok (.iload_n 3, 1) := by decide +kernel
theorem dX1_gapsOfOrder_42 : decode cX1_gapsOfOrder 42 = .ok (.iaload, 1) := by decide +kernel
theorem dX1_gapsOfOrder_43 : decode cX1_gapsOfOrder 43 = .ok (.ishr, 1) := by decide +kernel
theorem dX1_gapsOfOrder_44 : decode cX1_gapsOfOrder 44 = .ok (.iconst 1, 1) := by decide +kernel
theorem dX1_gapsOfOrder_45 : decode cX1_gapsOfOrder 45 = .ok (.iand, 1) := by decide +kernel
theorem dX1_gapsOfOrder_46 : decode cX1_gapsOfOrder 46 = .ok (.iload_n 3, 1) := by decide +kernel
theorem dX1_gapsOfOrder_47 : decode cX1_gapsOfOrder 47 = .ok (.ishl, 1) := by decide +kernel
theorem dX1_gapsOfOrder_48 : decode cX1_gapsOfOrder 48 = .ok (.ior, 1) := by decide +kernel
theorem dX1_gapsOfOrder_49 : decode cX1_gapsOfOrder 49 = .ok (.istore_n 2, 1) := by decide +kernel
theorem dX1_gapsOfOrder_50 : decode cX1_gapsOfOrder 50 = .ok (.iinc 3 1, 3) := by decide +kernel
theorem dX1_gapsOfOrder_53 : decode cX1_gapsOfOrder 53 = .ok (.goto (-49), 3) := by decide +kernel
theorem dX1_gapsOfOrder_56 : decode cX1_gapsOfOrder 56 = .ok (.aload_n 0, 1) := by decide +kernel
theorem dX1_gapsOfOrder_57 : decode cX1_gapsOfOrder 57 = .ok (.aload_n 0, 1) := by decide +kernel
theorem dX1_gapsOfOrder_58 : decode cX1_gapsOfOrder 58 = .ok (.getfield 18, 3) := by decide +kernel
theorem dX1_gapsOfOrder_61 : decode cX1_gapsOfOrder 61 = .ok (.getfield 34, 3) := by decide +kernel
theorem dX1_gapsOfOrder_64 : decode cX1_gapsOfOrder 64 = .ok (.iload_n 2, 1) := by decide +kernel
theorem dX1_gapsOfOrder_65 : decode cX1_gapsOfOrder 65 = .ok (.invokevirtual 41, 3) := by decide +kernel
theorem dX1_gapsOfOrder_68 : decode cX1_gapsOfOrder 68 = .ok (.ireturn, 1) := by decide +kernel
theorem dX1_gapsAsLaid_0 : decode cX1_gapsAsLaid 0 = .ok (.iconst 0, 1) := by decide +kernel
theorem dX1_gapsAsLaid_1 : decode cX1_gapsAsLaid 1 = .ok (.istore_n 3, 1) := by decide +kernel
theorem dX1_gapsAsLaid_2 : decode cX1_gapsAsLaid 2 = .ok (.iconst 0, 1) := by decide +kernel
theorem dX1_gapsAsLaid_3 : decode cX1_gapsAsLaid 3 = .ok (.istore 4, 2) := by decide +kernel
theorem dX1_gapsAsLaid_5 : decode cX1_gapsAsLaid 5 = .ok (.iconst 0, 1) := by decide +kernel
theorem dX1_gapsAsLaid_6 : decode cX1_gapsAsLaid 6 = .ok (.istore 5, 2) := by decide +kernel
theorem dX1_gapsAsLaid_8 : decode cX1_gapsAsLaid 8 = .ok (.iload 5, 2) := by decide +kernel
theorem dX1_gapsAsLaid_10 : decode cX1_gapsAsLaid 10 = .ok (.iload_n 1, 1) := by decide +kernel
theorem dX1_gapsAsLaid_11 : decode cX1_gapsAsLaid 11 = .ok (.if_icmp .ge 88, 3) := by decide +kernel
theorem dX1_gapsAsLaid_14 : decode cX1_gapsAsLaid 14 = .ok (.iconst 0, 1) := by decide +kernel
theorem dX1_gapsAsLaid_15 : decode cX1_gapsAsLaid 15 = .ok (.istore 6, 2) := by decide +kernel
theorem dX1_gapsAsLaid_17 : decode cX1_gapsAsLaid 17 = .ok (.iload 5, 2) := by decide +kernel
theorem dX1_gapsAsLaid_19 : decode cX1_gapsAsLaid 19 = .ok (.iconst 1, 1) := by decide +kernel
theorem dX1_gapsAsLaid_20 : decode cX1_gapsAsLaid 20 = .ok (.iadd, 1) := by decide +kernel
theorem dX1_gapsAsLaid_21 : decode cX1_gapsAsLaid 21 = .ok (.istore 7, 2) := by decide +kernel
theorem dX1_gapsAsLaid_23 : decode cX1_gapsAsLaid 23 = .ok (.iload 7, 2) := by decide +kernel
theorem dX1_gapsAsLaid_25 : decode cX1_gapsAsLaid 25 = .ok (.iload_n 1, 1) := by decide +kernel
theorem dX1_gapsAsLaid_26 : decode cX1_gapsAsLaid 26 = .ok (.if_icmp .ge 21, 3) := by decide +kernel
theorem dX1_gapsAsLaid_29 : decode cX1_gapsAsLaid 29 = .ok (.iload 6, 2) := by decide +kernel
theorem dX1_gapsAsLaid_31 : decode cX1_gapsAsLaid 31 = .ok (.aload_n 0, 1) := by decide +kernel
theorem dX1_gapsAsLaid_32 : decode cX1_gapsAsLaid 32 = .ok (.getfield 15, 3) := by decide +kernel
theorem dX1_gapsAsLaid_35 : decode cX1_gapsAsLaid 35 = .ok (.iload 7, 2) := by decide +kernel
theorem dX1_gapsAsLaid_37 : decode cX1_gapsAsLaid 37 = .ok (.iaload, 1) := by decide +kernel
theorem dX1_gapsAsLaid_38 : decode cX1_gapsAsLaid 38 = .ok (.ior, 1) := by decide +kernel
theorem dX1_gapsAsLaid_39 : decode cX1_gapsAsLaid 39 = .ok (.istore 6, 2) := by decide +kernel
theorem dX1_gapsAsLaid_41 : decode cX1_gapsAsLaid 41 = .ok (.iinc 7 1, 3) := by decide +kernel
theorem dX1_gapsAsLaid_44 : decode cX1_gapsAsLaid 44 = .ok (.goto (-21), 3) := by decide +kernel
theorem dX1_gapsAsLaid_47 : decode cX1_gapsAsLaid 47 = .ok (.iload_n 2, 1) := by decide +kernel
theorem dX1_gapsAsLaid_48 : decode cX1_gapsAsLaid 48 = .ok (.iload 5, 2) := by decide +kernel
theorem dX1_gapsAsLaid_50 : decode cX1_gapsAsLaid 50 = .ok (.ishr, 1) := by decide +kernel
theorem dX1_gapsAsLaid_51 : decode cX1_gapsAsLaid 51 = .ok (.iconst 1, 1) := by decide +kernel
theorem dX1_gapsAsLaid_52 : decode cX1_gapsAsLaid 52 = .ok (.iand, 1) := by decide +kernel
theorem dX1_gapsAsLaid_53 : decode cX1_gapsAsLaid 53 = .ok (.ifCond .ne 28, 3) := by decide +kernel
theorem dX1_gapsAsLaid_56 : decode cX1_gapsAsLaid 56 = .ok (.iload_n 3, 1) := by decide +kernel
theorem dX1_gapsAsLaid_57 : decode cX1_gapsAsLaid 57 = .ok (.aload_n 0, 1) := by decide +kernel
theorem dX1_gapsAsLaid_58 : decode cX1_gapsAsLaid 58 = .ok (.getfield 18, 3) := by decide +kernel
theorem dX1_gapsAsLaid_61 : decode cX1_gapsAsLaid 61 = .ok (.iload 4, 2) := by decide +kernel
theorem dX1_gapsAsLaid_63 : decode cX1_gapsAsLaid 63 = .ok (.iload 6, 2) := by decide +kernel
theorem dX1_gapsAsLaid_65 : decode cX1_gapsAsLaid 65 = .ok (.iand, 1) := by decide +kernel
theorem dX1_gapsAsLaid_66 : decode cX1_gapsAsLaid 66 = .ok (.aload_n 0, 1) := by decide +kernel
theorem dX1_gapsAsLaid_67 : decode cX1_gapsAsLaid 67 = .ok (.getfield 15, 3) := by decide +kernel
theorem dX1_gapsAsLaid_70 : decode cX1_gapsAsLaid 70 = .ok (.iload 5, 2) := by decide +kernel
theorem dX1_gapsAsLaid_72 : decode cX1_gapsAsLaid 72 = .ok (.iaload, 1) := by decide +kernel
theorem dX1_gapsAsLaid_73 : decode cX1_gapsAsLaid 73 = .ok (.iconst (-1), 1) := by decide +kernel
theorem dX1_gapsAsLaid_74 : decode cX1_gapsAsLaid 74 = .ok (.ixor, 1) := by decide +kernel
theorem dX1_gapsAsLaid_75 : decode cX1_gapsAsLaid 75 = .ok (.iand, 1) := by decide +kernel
theorem dX1_gapsAsLaid_76 : decode cX1_gapsAsLaid 76 = .ok (.invokevirtual 45, 3) := by decide +kernel
theorem dX1_gapsAsLaid_79 : decode cX1_gapsAsLaid 79 = .ok (.iadd, 1) := by decide +kernel
theorem dX1_gapsAsLaid_80 : decode cX1_gapsAsLaid 80 = .ok (.istore_n 3, 1) := by decide +kernel
theorem dX1_gapsAsLaid_81 : decode cX1_gapsAsLaid 81 = .ok (.iload 4, 2) := by decide +kernel
theorem dX1_gapsAsLaid_83 : decode cX1_gapsAsLaid 83 = .ok (.aload_n 0, 1) := by decide +kernel
theorem dX1_gapsAsLaid_84 : decode cX1_gapsAsLaid 84 = .ok (.getfield 15, 3) := by decide +kernel
theorem dX1_gapsAsLaid_87 : decode cX1_gapsAsLaid 87 = .ok (.iload 5, 2) := by decide +kernel
theorem dX1_gapsAsLaid_89 : decode cX1_gapsAsLaid 89 = .ok (.iaload, 1) := by decide +kernel
theorem dX1_gapsAsLaid_90 : decode cX1_gapsAsLaid 90 = .ok (.ior, 1) := by decide +kernel
theorem dX1_gapsAsLaid_91 : decode cX1_gapsAsLaid 91 = .ok (.istore 4, 2) := by decide +kernel
theorem dX1_gapsAsLaid_93 : decode cX1_gapsAsLaid 93 = .ok (.iinc 5 1, 3) := by decide +kernel
theorem dX1_gapsAsLaid_96 : decode cX1_gapsAsLaid 96 = .ok (.goto (-88), 3) := by decide +kernel
theorem dX1_gapsAsLaid_99 : decode cX1_gapsAsLaid 99 = .ok (.iload_n 3, 1) := by decide +kernel
theorem dX1_gapsAsLaid_100 : decode cX1_gapsAsLaid 100 = .ok (.ireturn, 1) := by decide +kernel
theorem dX1_gapsWith_0 : decode cX1_gapsWith 0 = .ok (.iconst 0, 1) := by decide +kernel
theorem dX1_gapsWith_1 : decode cX1_gapsWith 1 = .ok (.istore_n 3, 1) := by decide +kernel
theorem dX1_gapsWith_2 : decode cX1_gapsWith 2 = .ok (.iconst 0, 1) := by decide +kernel
theorem dX1_gapsWith_3 : decode cX1_gapsWith 3 = .ok (.istore 4, 2) := by decide +kernel
theorem dX1_gapsWith_5 : decode cX1_gapsWith 5 = .ok (.iload 4, 2) := by decide +kernel
theorem dX1_gapsWith_7 : decode cX1_gapsWith 7 = .ok (.aload_n 0, 1) := by decide +kernel
theorem dX1_gapsWith_8 : decode cX1_gapsWith 8 = .ok (.getfield 18, 3) := by decide +kernel
theorem dX1_gapsWith_11 : decode cX1_gapsWith 11 = .ok (.getfield 34, 3) := by decide +kernel
theorem dX1_gapsWith_14 : decode cX1_gapsWith 14 = .ok (.if_icmp .ge 68, 3) := by decide +kernel
theorem dX1_gapsWith_17 : decode cX1_gapsWith 17 = .ok (.iload 4, 2) := by decide +kernel
theorem dX1_gapsWith_19 : decode cX1_gapsWith 19 = .ok (.iload_n 2, 1) := by decide +kernel
theorem dX1_gapsWith_20 : decode cX1_gapsWith 20 = .ok (.if_icmp .ge 8, 3) := by decide +kernel
theorem dX1_gapsWith_23 : decode cX1_gapsWith 23 = .ok (.iload 4, 2) := by decide +kernel
theorem dX1_gapsWith_25 : decode cX1_gapsWith 25 = .ok (.goto 7, 3) := by decide +kernel
theorem dX1_gapsWith_28 : decode cX1_gapsWith 28 = .ok (.iload 4, 2) := by decide +kernel
theorem dX1_gapsWith_30 : decode cX1_gapsWith 30 = .ok (.iconst 1, 1) := by decide +kernel
theorem dX1_gapsWith_31 : decode cX1_gapsWith 31 = .ok (.iadd, 1) := by decide +kernel
theorem dX1_gapsWith_32 : decode cX1_gapsWith 32 = .ok (.istore 5, 2) := by decide +kernel
theorem dX1_gapsWith_34 : decode cX1_gapsWith 34 = .ok (.aload_n 0, 1) := by decide +kernel
theorem dX1_gapsWith_35 : decode cX1_gapsWith 35 = .ok (.getfield 15, 3) := by decide +kernel
theorem dX1_gapsWith_38 : decode cX1_gapsWith 38 = .ok (.iload 5, 2) := by decide +kernel
theorem dX1_gapsWith_40 : decode cX1_gapsWith 40 = .ok (.aload_n 0, 1) := by decide +kernel
theorem dX1_gapsWith_41 : decode cX1_gapsWith 41 = .ok (.getfield 18, 3) := by decide +kernel
theorem dX1_gapsWith_44 : decode cX1_gapsWith 44 = .ok (.getfield 25, 3) := by decide +kernel
theorem dX1_gapsWith_47 : decode cX1_gapsWith 47 = .ok (.aload_n 0, 1) := by decide +kernel
theorem dX1_gapsWith_48 : decode cX1_gapsWith 48 = .ok (.getfield 22, 3) := by decide +kernel
theorem dX1_gapsWith_51 : decode cX1_gapsWith 51 = .ok (.iload 4, 2) := by decide +kernel
theorem dX1_gapsWith_53 : decode cX1_gapsWith 53 = .ok (.iaload, 1) := by decide +kernel
theorem dX1_gapsWith_54 : decode cX1_gapsWith 54 = .ok (.iaload, 1) := by decide +kernel
theorem dX1_gapsWith_55 : decode cX1_gapsWith 55 = .ok (.iastore, 1) := by decide +kernel
theorem dX1_gapsWith_56 : decode cX1_gapsWith 56 = .ok (.iload_n 3, 1) := by decide +kernel
theorem dX1_gapsWith_57 : decode cX1_gapsWith 57 = .ok (.aload_n 0, 1) := by decide +kernel
theorem dX1_gapsWith_58 : decode cX1_gapsWith 58 = .ok (.iload 4, 2) := by decide +kernel
theorem dX1_gapsWith_60 : decode cX1_gapsWith 60 = .ok (.invokevirtual 49, 3) := by decide +kernel
theorem dX1_gapsWith_63 : decode cX1_gapsWith 63 = .ok (.ifCond .eq 10, 3) := by decide +kernel
theorem dX1_gapsWith_66 : decode cX1_gapsWith 66 = .ok (.iconst 1, 1) := by decide +kernel
theorem dX1_gapsWith_67 : decode cX1_gapsWith 67 = .ok (.iload 5, 2) := by decide +kernel
theorem dX1_gapsWith_69 : decode cX1_gapsWith 69 = .ok (.ishl, 1) := by decide +kernel
theorem dX1_gapsWith_70 : decode cX1_gapsWith 70 = .ok (.goto 4, 3) := by decide +kernel
theorem dX1_gapsWith_73 : decode cX1_gapsWith 73 = .ok (.iconst 0, 1) := by decide +kernel
theorem dX1_gapsWith_74 : decode cX1_gapsWith 74 = .ok (.ior, 1) := by decide +kernel
theorem dX1_gapsWith_75 : decode cX1_gapsWith 75 = .ok (.istore_n 3, 1) := by decide +kernel
theorem dX1_gapsWith_76 : decode cX1_gapsWith 76 = .ok (.iinc 4 1, 3) := by decide +kernel
theorem dX1_gapsWith_79 : decode cX1_gapsWith 79 = .ok (.goto (-74), 3) := by decide +kernel
theorem dX1_gapsWith_82 : decode cX1_gapsWith 82 = .ok (.aload_n 0, 1) := by decide +kernel
theorem dX1_gapsWith_83 : decode cX1_gapsWith 83 = .ok (.getfield 15, 3) := by decide +kernel
theorem dX1_gapsWith_86 : decode cX1_gapsWith 86 = .ok (.iload_n 2, 1) := by decide +kernel
theorem dX1_gapsWith_87 : decode cX1_gapsWith 87 = .ok (.iload_n 1, 1) := by decide +kernel
theorem dX1_gapsWith_88 : decode cX1_gapsWith 88 = .ok (.iastore, 1) := by decide +kernel
theorem dX1_gapsWith_89 : decode cX1_gapsWith 89 = .ok (.aload_n 0, 1) := by decide +kernel
theorem dX1_gapsWith_90 : decode cX1_gapsWith 90 = .ok (.aload_n 0, 1) := by decide +kernel
theorem dX1_gapsWith_91 : decode cX1_gapsWith 91 = .ok (.getfield 18, 3) := by decide +kernel
theorem dX1_gapsWith_94 : decode cX1_gapsWith 94 = .ok (.getfield 34, 3) := by decide +kernel
theorem dX1_gapsWith_97 : decode cX1_gapsWith 97 = .ok (.iconst 1, 1) := by decide +kernel
theorem dX1_gapsWith_98 : decode cX1_gapsWith 98 = .ok (.iadd, 1) := by decide +kernel
theorem dX1_gapsWith_99 : decode cX1_gapsWith 99 = .ok (.iload_n 3, 1) := by decide +kernel
theorem dX1_gapsWith_100 : decode cX1_gapsWith 100 = .ok (.invokevirtual 41, 3) := by decide +kernel
theorem dX1_gapsWith_103 : decode cX1_gapsWith 103 = .ok (.ireturn, 1) := by decide +kernel
theorem dX1_fewestGapsWith_0 : decode cX1_fewestGapsWith 0 = .ok (.aload_n 0, 1) := by decide +kernel
theorem dX1_fewestGapsWith_1 : decode cX1_fewestGapsWith 1 = .ok (.iload_n 1, 1) := by decide +kernel
theorem dX1_fewestGapsWith_2 : decode cX1_fewestGapsWith 2 = .ok (.iconst 0, 1) := by decide +kernel
theorem dX1_fewestGapsWith_3 : decode cX1_fewestGapsWith 3 = .ok (.invokevirtual 53, 3) := by decide +kernel
theorem dX1_fewestGapsWith_6 : decode cX1_fewestGapsWith 6 = .ok (.istore_n 2, 1) := by decide +kernel
theorem dX1_fewestGapsWith_7 : decode cX1_fewestGapsWith 7 = .ok (.iconst 1, 1) := by decide +kernel
theorem dX1_fewestGapsWith_8 : decode cX1_fewestGapsWith 8 = .ok (.istore_n 3, 1) := by decide +kernel
theorem dX1_fewestGapsWith_9 : decode cX1_fewestGapsWith 9 = .ok (.iload_n 3, 1) := by decide +kernel
theorem dX1_fewestGapsWith_10 : decode cX1_fewestGapsWith 10 = .ok (.aload_n 0, 1) := by decide +kernel
theorem dX1_fewestGapsWith_11 : decode cX1_fewestGapsWith 11 = .ok (.getfield 18, 3) := by decide +kernel
theorem dX1_fewestGapsWith_14 : decode cX1_fewestGapsWith 14 = .ok (.getfield 34, 3) := by decide +kernel
theorem dX1_fewestGapsWith_17 : decode cX1_fewestGapsWith 17 = .ok (.if_icmp .gt 20, 3) := by decide +kernel
theorem dX1_fewestGapsWith_20 : decode cX1_fewestGapsWith 20 = .ok (.iload_n 2, 1) := by decide +kernel
theorem dX1_fewestGapsWith_21 : decode cX1_fewestGapsWith 21 = .ok (.aload_n 0, 1) := by decide +kernel
theorem dX1_fewestGapsWith_22 : decode cX1_fewestGapsWith 22 = .ok (.iload_n 1, 1) := by decide +kernel
theorem dX1_fewestGapsWith_23 : decode cX1_fewestGapsWith 23 = .ok (.iload_n 3, 1) := by decide +kernel
theorem dX1_fewestGapsWith_24 : decode cX1_fewestGapsWith 24 = .ok (.invokevirtual 53, 3) := by decide +kernel
theorem dX1_fewestGapsWith_27 : decode cX1_fewestGapsWith 27 = .ok (.invokestatic 56, 3) := by decide +kernel
theorem dX1_fewestGapsWith_30 : decode cX1_fewestGapsWith 30 = .ok (.istore_n 2, 1) := by decide +kernel
theorem dX1_fewestGapsWith_31 : decode cX1_fewestGapsWith 31 = .ok (.iinc 3 1, 3) := by decide +kernel
theorem dX1_fewestGapsWith_34 : decode cX1_fewestGapsWith 34 = .ok (.goto (-25), 3) := by decide +kernel
theorem dX1_fewestGapsWith_37 : decode cX1_fewestGapsWith 37 = .ok (.iload_n 2, 1) := by decide +kernel
theorem dX1_fewestGapsWith_38 : decode cX1_fewestGapsWith 38 = .ok (.ireturn, 1) := by decide +kernel
theorem dX1_placesWith_0 : decode cX1_placesWith 0 = .ok (.iconst 0, 1) := by decide +kernel
theorem dX1_placesWith_1 : decode cX1_placesWith 1 = .ok (.istore_n 3, 1) := by decide +kernel
theorem dX1_placesWith_2 : decode cX1_placesWith 2 = .ok (.iconst 0, 1) := by decide +kernel
theorem dX1_placesWith_3 : decode cX1_placesWith 3 = .ok (.istore 4, 2) := by decide +kernel
theorem dX1_placesWith_5 : decode cX1_placesWith 5 = .ok (.iload 4, 2) := by decide +kernel
theorem dX1_placesWith_7 : decode cX1_placesWith 7 = .ok (.aload_n 0, 1) := by decide +kernel
theorem dX1_placesWith_8 : decode cX1_placesWith 8 = .ok (.getfield 18, 3) := by decide +kernel
theorem dX1_placesWith_11 : decode cX1_placesWith 11 = .ok (.getfield 34, 3) := by decide +kernel
theorem dX1_placesWith_14 : decode cX1_placesWith 14 = .ok (.if_icmp .gt 31, 3) := by decide +kernel
theorem dX1_placesWith_17 : decode cX1_placesWith 17 = .ok (.iload_n 3, 1) := by decide +kernel
theorem dX1_placesWith_18 : decode cX1_placesWith 18 = .ok (.aload_n 0, 1) := by decide +kernel
theorem dX1_placesWith_19 : decode cX1_placesWith 19 = .ok (.iload_n 1, 1) := by decide +kernel
theorem dX1_placesWith_20 : decode cX1_placesWith 20 = .ok (.iload 4, 2) := by decide +kernel
theorem dX1_placesWith_22 : decode cX1_placesWith 22 = .ok (.invokevirtual 53, 3) := by decide +kernel
theorem dX1_placesWith_25 : decode cX1_placesWith 25 = .ok (.iload_n 2, 1) := by decide +kernel
theorem dX1_placesWith_26 : decode cX1_placesWith 26 = .ok (.if_icmp .ne 10, 3) := by decide +kernel
theorem dX1_placesWith_29 : decode cX1_placesWith 29 = .ok (.iconst 1, 1) := by decide +kernel
theorem dX1_placesWith_30 : decode cX1_placesWith 30 = .ok (.iload 4, 2) := by decide +kernel
theorem dX1_placesWith_32 : decode cX1_placesWith 32 = .ok (.ishl, 1) := by decide +kernel
theorem dX1_placesWith_33 : decode cX1_placesWith 33 = .ok (.goto 4, 3) := by decide +kernel
theorem dX1_placesWith_36 : decode cX1_placesWith 36 = .ok (.iconst 0, 1) := by decide +kernel
theorem dX1_placesWith_37 : decode cX1_placesWith 37 = .ok (.ior, 1) := by decide +kernel
theorem dX1_placesWith_38 : decode cX1_placesWith 38 = .ok (.istore_n 3, 1) := by decide +kernel
theorem dX1_placesWith_39 : decode cX1_placesWith 39 = .ok (.iinc 4 1, 3) := by decide +kernel
theorem dX1_placesWith_42 : decode cX1_placesWith 42 = .ok (.goto (-37), 3) := by decide +kernel
theorem dX1_placesWith_45 : decode cX1_placesWith 45 = .ok (.iload_n 3, 1) := by decide +kernel
theorem dX1_placesWith_46 : decode cX1_placesWith 46 = .ok (.ireturn, 1) := by decide +kernel
theorem dX1_mending_0 : decode cX1_mending 0 = .ok (.iconst 0, 1) := by decide +kernel
theorem dX1_mending_1 : decode cX1_mending 1 = .ok (.istore_n 2, 1) := by decide +kernel
theorem dX1_mending_2 : decode cX1_mending 2 = .ok (.iconst 0, 1) := by decide +kernel
theorem dX1_mending_3 : decode cX1_mending 3 = .ok (.istore_n 3, 1) := by decide +kernel
theorem dX1_mending_4 : decode cX1_mending 4 = .ok (.iload_n 3, 1) := by decide +kernel
theorem dX1_mending_5 : decode cX1_mending 5 = .ok (.aload_n 0, 1) := by decide +kernel
theorem dX1_mending_6 : decode cX1_mending 6 = .ok (.getfield 18, 3) := by decide +kernel
theorem dX1_mending_9 : decode cX1_mending 9 = .ok (.getfield 34, 3) := by decide +kernel
theorem dX1_mending_12 : decode cX1_mending 12 = .ok (.if_icmp .ge 26, 3) := by decide +kernel
theorem dX1_mending_15 : decode cX1_mending 15 = .ok (.iload_n 2, 1) := by decide +kernel
theorem dX1_mending_16 : decode cX1_mending 16 = .ok (.aload_n 0, 1) := by decide +kernel
theorem dX1_mending_17 : decode cX1_mending 17 = .ok (.iload_n 3, 1) := by decide +kernel
theorem dX1_mending_18 : decode cX1_mending 18 = .ok (.iload_n 1, 1) := by decide +kernel
theorem dX1_mending_19 : decode cX1_mending 19 = .ok (.invokevirtual 61, 3) := by decide +kernel
theorem dX1_mending_22 : decode cX1_mending 22 = .ok (.ifCond .eq 7, 3) := by decide +kernel
theorem dX1_mending_25 : decode cX1_mending 25 = .ok (.iconst 1, 1) := by decide +kernel
theorem dX1_mending_26 : decode cX1_mending 26 = .ok (.goto 4, 3) := by decide +kernel
theorem dX1_mending_29 : decode cX1_mending 29 = .ok (.iconst 0, 1) := by decide +kernel
theorem dX1_mending_30 : decode cX1_mending 30 = .ok (.iadd, 1) := by decide +kernel
theorem dX1_mending_31 : decode cX1_mending 31 = .ok (.istore_n 2, 1) := by decide +kernel
theorem dX1_mending_32 : decode cX1_mending 32 = .ok (.iinc 3 1, 3) := by decide +kernel
theorem dX1_mending_35 : decode cX1_mending 35 = .ok (.goto (-31), 3) := by decide +kernel
theorem dX1_mending_38 : decode cX1_mending 38 = .ok (.iload_n 2, 1) := by decide +kernel
theorem dX1_mending_39 : decode cX1_mending 39 = .ok (.istore_n 3, 1) := by decide +kernel
theorem dX1_mending_40 : decode cX1_mending 40 = .ok (.iconst 0, 1) := by decide +kernel
theorem dX1_mending_41 : decode cX1_mending 41 = .ok (.istore 4, 2) := by decide +kernel
theorem dX1_mending_43 : decode cX1_mending 43 = .ok (.iload 4, 2) := by decide +kernel
theorem dX1_mending_45 : decode cX1_mending 45 = .ok (.aload_n 0, 1) := by decide +kernel
theorem dX1_mending_46 : decode cX1_mending 46 = .ok (.getfield 18, 3) := by decide +kernel
theorem dX1_mending_49 : decode cX1_mending 49 = .ok (.getfield 34, 3) := by decide +kernel
theorem dX1_mending_52 : decode cX1_mending 52 = .ok (.if_icmp .ge 32, 3) := by decide +kernel
theorem dX1_mending_55 : decode cX1_mending 55 = .ok (.aload_n 0, 1) := by decide +kernel
theorem dX1_mending_56 : decode cX1_mending 56 = .ok (.iload 4, 2) := by decide +kernel
theorem dX1_mending_58 : decode cX1_mending 58 = .ok (.iload_n 1, 1) := by decide +kernel
theorem dX1_mending_59 : decode cX1_mending 59 = .ok (.invokevirtual 61, 3) := by decide +kernel
theorem dX1_mending_62 : decode cX1_mending 62 = .ok (.ifCond .eq 16, 3) := by decide +kernel
theorem dX1_mending_65 : decode cX1_mending 65 = .ok (.iload_n 3, 1) := by decide +kernel
theorem dX1_mending_66 : decode cX1_mending 66 = .ok (.aload_n 0, 1) := by decide +kernel
theorem dX1_mending_67 : decode cX1_mending 67 = .ok (.iload 4, 2) := by decide +kernel
theorem dX1_mending_69 : decode cX1_mending 69 = .ok (.iload_n 1, 1) := by decide +kernel
theorem dX1_mending_70 : decode cX1_mending 70 = .ok (.iload_n 2, 1) := by decide +kernel
theorem dX1_mending_71 : decode cX1_mending 71 = .ok (.invokevirtual 65, 3) := by decide +kernel
theorem dX1_mending_74 : decode cX1_mending 74 = .ok (.invokestatic 56, 3) := by decide +kernel
theorem dX1_mending_77 : decode cX1_mending 77 = .ok (.istore_n 3, 1) := by decide +kernel
theorem dX1_mending_78 : decode cX1_mending 78 = .ok (.iinc 4 1, 3) := by decide +kernel
theorem dX1_mending_81 : decode cX1_mending 81 = .ok (.goto (-38), 3) := by decide +kernel
theorem dX1_mending_84 : decode cX1_mending 84 = .ok (.iload_n 3, 1) := by decide +kernel
theorem dX1_mending_85 : decode cX1_mending 85 = .ok (.ireturn, 1) := by decide +kernel
theorem dX1_mendingFrom_0 : decode cX1_mendingFrom 0 = .ok (.iload_n 3, 1) := by decide +kernel
theorem dX1_mendingFrom_1 : decode cX1_mendingFrom 1 = .ok (.istore 4, 2) := by decide +kernel
theorem dX1_mendingFrom_3 : decode cX1_mendingFrom 3 = .ok (.iconst 0, 1) := by decide +kernel
theorem dX1_mendingFrom_4 : decode cX1_mendingFrom 4 = .ok (.istore 5, 2) := by decide +kernel
theorem dX1_mendingFrom_6 : decode cX1_mendingFrom 6 = .ok (.iconst 0, 1) := by decide +kernel
theorem dX1_mendingFrom_7 : decode cX1_mendingFrom 7 = .ok (.istore 6, 2) := by decide +kernel
theorem dX1_mendingFrom_9 : decode cX1_mendingFrom 9 = .ok (.iload_n 1, 1) := by decide +kernel
theorem dX1_mendingFrom_10 : decode cX1_mendingFrom 10 = .ok (.istore 7, 2) := by decide +kernel
theorem dX1_mendingFrom_12 : decode cX1_mendingFrom 12 = .ok (.iload 7, 2) := by decide +kernel
theorem dX1_mendingFrom_14 : decode cX1_mendingFrom 14 = .ok (.aload_n 0, 1) := by decide +kernel
theorem dX1_mendingFrom_15 : decode cX1_mendingFrom 15 = .ok (.getfield 18, 3) := by decide +kernel
theorem dX1_mendingFrom_18 : decode cX1_mendingFrom 18 = .ok (.getfield 34, 3) := by decide +kernel
theorem dX1_mendingFrom_21 : decode cX1_mendingFrom 21 = .ok (.if_icmp .ge 51, 3) := by decide +kernel
theorem dX1_mendingFrom_24 : decode cX1_mendingFrom 24 = .ok (.aload_n 0, 1) := by decide +kernel
theorem dX1_mendingFrom_25 : decode cX1_mendingFrom 25 = .ok (.iload 7, 2) := by decide +kernel
theorem dX1_mendingFrom_27 : decode cX1_mendingFrom 27 = .ok (.iload_n 2, 1) := by decide +kernel
theorem dX1_mendingFrom_28 : decode cX1_mendingFrom 28 = .ok (.invokevirtual 61, 3) := by decide +kernel
theorem dX1_mendingFrom_31 : decode cX1_mendingFrom 31 = .ok (.ifCond .eq 23, 3) := by decide +kernel
theorem dX1_mendingFrom_34 : decode cX1_mendingFrom 34 = .ok (.iinc 5 1, 3) := by decide +kernel
theorem dX1_mendingFrom_37 : decode cX1_mendingFrom 37 = .ok (.iload 4, 2) := by decide +kernel
theorem dX1_mendingFrom_39 : decode cX1_mendingFrom 39 = .ok (.iload_n 3, 1) := by decide +kernel
theorem dX1_mendingFrom_40 : decode cX1_mendingFrom 40 = .ok (.iload 5, 2) := by decide +kernel
theorem dX1_mendingFrom_42 : decode cX1_mendingFrom 42 = .ok (.isub, 1) := by decide +kernel
theorem dX1_mendingFrom_43 : decode cX1_mendingFrom 43 = .ok (.iload 6, 2) := by decide +kernel
theorem dX1_mendingFrom_45 : decode cX1_mendingFrom 45 = .ok (.iadd, 1) := by decide +kernel
theorem dX1_mendingFrom_46 : decode cX1_mendingFrom 46 = .ok (.invokestatic 56, 3) := by decide +kernel
theorem dX1_mendingFrom_49 : decode cX1_mendingFrom 49 = .ok (.istore 4, 2) := by decide +kernel
theorem dX1_mendingFrom_51 : decode cX1_mendingFrom 51 = .ok (.goto 15, 3) := by decide +kernel
theorem dX1_mendingFrom_54 : decode cX1_mendingFrom 54 = .ok (.aload_n 0, 1) := by decide +kernel
theorem dX1_mendingFrom_55 : decode cX1_mendingFrom 55 = .ok (.iload 7, 2) := by decide +kernel
theorem dX1_mendingFrom_57 : decode cX1_mendingFrom 57 = .ok (.invokevirtual 49, 3) := by decide +kernel
theorem dX1_mendingFrom_60 : decode cX1_mendingFrom 60 = .ok (.ifCond .ne 6, 3) := by decide +kernel
theorem dX1_mendingFrom_63 : decode cX1_mendingFrom 63 = .ok (.iinc 6 1, 3) := by decide +kernel
theorem dX1_mendingFrom_66 : decode cX1_mendingFrom 66 = .ok (.iinc 7 1, 3) := by decide +kernel
theorem dX1_mendingFrom_69 : decode cX1_mendingFrom 69 = .ok (.goto (-57), 3) := by decide +kernel
theorem dX1_mendingFrom_72 : decode cX1_mendingFrom 72 = .ok (.iload 4, 2) := by decide +kernel
theorem dX1_mendingFrom_74 : decode cX1_mendingFrom 74 = .ok (.ireturn, 1) := by decide +kernel
theorem dX1_bestCuts_0 : decode cX1_bestCuts 0 = .ok (.iconst 0, 1) := by decide +kernel
theorem dX1_bestCuts_1 : decode cX1_bestCuts 1 = .ok (.istore_n 2, 1) := by decide +kernel
theorem dX1_bestCuts_2 : decode cX1_bestCuts 2 = .ok (.ldc 71, 2) := by decide +kernel
theorem dX1_bestCuts_4 : decode cX1_bestCuts 4 = .ok (.istore_n 3, 1) := by decide +kernel
theorem dX1_bestCuts_5 : decode cX1_bestCuts 5 = .ok (.iconst 1, 1) := by decide +kernel
theorem dX1_bestCuts_6 : decode cX1_bestCuts 6 = .ok (.iconst 0, 1) := by decide +kernel
theorem dX1_bestCuts_7 : decode cX1_bestCuts 7 = .ok (.aload_n 0, 1) := by decide +kernel
theorem dX1_bestCuts_8 : decode cX1_bestCuts 8 = .ok (.getfield 18, 3) := by decide +kernel
theorem dX1_bestCuts_11 : decode cX1_bestCuts 11 = .ok (.getfield 34, 3) := by decide +kernel
theorem dX1_bestCuts_14 : decode cX1_bestCuts 14 = .ok (.iconst 1, 1) := by decide +kernel
theorem dX1_bestCuts_15 : decode cX1_bestCuts 15 = .ok (.isub, 1) := by decide +kernel
theorem dX1_bestCuts_16 : decode cX1_bestCuts 16 = .ok (.invokestatic 72, 3) := by decide +kernel
theorem dX1_bestCuts_19 : decode cX1_bestCuts 19 = .ok (.ishl, 1) := by decide +kernel
theorem dX1_bestCuts_20 : decode cX1_bestCuts 20 = .ok (.iconst 1, 1) := by decide +kernel
theorem dX1_bestCuts_21 : decode cX1_bestCuts 21 = .ok (.isub, 1) := by decide +kernel
theorem dX1_bestCuts_22 : decode cX1_bestCuts 22 = .ok (.istore 4, 2) := by decide +kernel
theorem dX1_bestCuts_24 : decode cX1_bestCuts 24 = .ok (.iload 4, 2) := by decide +kernel
theorem dX1_bestCuts_26 : decode cX1_bestCuts 26 = .ok (.istore 5, 2) := by decide +kernel
theorem dX1_bestCuts_28 : decode cX1_bestCuts 28 = .ok (.iload 5, 2) := by decide +kernel
theorem dX1_bestCuts_30 : decode cX1_bestCuts 30 = .ok (.ifCond .lt 40, 3) := by decide +kernel
theorem dX1_bestCuts_33 : decode cX1_bestCuts 33 = .ok (.iload 5, 2) := by decide +kernel
theorem dX1_bestCuts_35 : decode cX1_bestCuts 35 = .ok (.invokestatic 75, 3) := by decide +kernel
theorem dX1_bestCuts_38 : decode cX1_bestCuts 38 = .ok (.iload_n 1, 1) := by decide +kernel
theorem dX1_bestCuts_39 : decode cX1_bestCuts 39 = .ok (.iconst 1, 1) := by decide +kernel
theorem dX1_bestCuts_40 : decode cX1_bestCuts 40 = .ok (.isub, 1) := by decide +kernel
theorem dX1_bestCuts_41 : decode cX1_bestCuts 41 = .ok (.if_icmp .ne 23, 3) := by decide +kernel
theorem dX1_bestCuts_44 : decode cX1_bestCuts 44 = .ok (.aload_n 0, 1) := by decide +kernel
theorem dX1_bestCuts_45 : decode cX1_bestCuts 45 = .ok (.iload 5, 2) := by decide +kernel
theorem dX1_bestCuts_47 : decode cX1_bestCuts 47 = .ok (.invokevirtual 80, 3) := by decide +kernel
theorem dX1_bestCuts_50 : decode cX1_bestCuts 50 = .ok (.iload_n 3, 1) := by decide +kernel
theorem dX1_bestCuts_51 : decode cX1_bestCuts 51 = .ok (.if_icmp .ge 13, 3) := by decide +kernel
theorem dX1_bestCuts_54 : decode cX1_bestCuts 54 = .ok (.iload 5, 2) := by decide +kernel
theorem dX1_bestCuts_56 : decode cX1_bestCuts 56 = .ok (.istore_n 2, 1) := by decide +kernel
theorem dX1_bestCuts_57 : decode cX1_bestCuts 57 = .ok (.aload_n 0, 1) := by decide +kernel
theorem dX1_bestCuts_58 : decode cX1_bestCuts 58 = .ok (.iload 5, 2) := by decide +kernel
theorem dX1_bestCuts_60 : decode cX1_bestCuts 60 = .ok (.invokevirtual 80, 3) := by decide +kernel
theorem dX1_bestCuts_63 : decode cX1_bestCuts 63 = .ok (.istore_n 3, 1) := by decide +kernel
theorem dX1_bestCuts_64 : decode cX1_bestCuts 64 = .ok (.iinc 5 (-1), 3) := by decide +kernel
theorem dX1_bestCuts_67 : decode cX1_bestCuts 67 = .ok (.goto (-39), 3) := by decide +kernel
theorem dX1_bestCuts_70 : decode cX1_bestCuts 70 = .ok (.iload_n 2, 1) := by decide +kernel
theorem dX1_bestCuts_71 : decode cX1_bestCuts 71 = .ok (.ireturn, 1) := by decide +kernel
theorem dX1_isCutAhead_0 : decode cX1_isCutAhead 0 = .ok (.iload_n 1, 1) := by decide +kernel
theorem dX1_isCutAhead_1 : decode cX1_isCutAhead 1 = .ok (.ifCond .le 25, 3) := by decide +kernel
theorem dX1_isCutAhead_4 : decode cX1_isCutAhead 4 = .ok (.iload_n 2, 1) := by decide +kernel
theorem dX1_isCutAhead_5 : decode cX1_isCutAhead 5 = .ok (.aload_n 0, 1) := by decide +kernel
theorem dX1_isCutAhead_6 : decode cX1_isCutAhead 6 = .ok (.getfield 18, 3) := by decide +kernel
theorem dX1_isCutAhead_9 : decode cX1_isCutAhead 9 = .ok (.getfield 34, 3) := by decide +kernel
theorem dX1_isCutAhead_12 : decode cX1_isCutAhead 12 = .ok (.iconst 1, 1) := by decide +kernel
theorem dX1_isCutAhead_13 : decode cX1_isCutAhead 13 = .ok (.isub, 1) := by decide +kernel
theorem dX1_isCutAhead_14 : decode cX1_isCutAhead 14 = .ok (.iload_n 1, 1) := by decide +kernel
theorem dX1_isCutAhead_15 : decode cX1_isCutAhead 15 = .ok (.isub, 1) := by decide +kernel
theorem dX1_isCutAhead_16 : decode cX1_isCutAhead 16 = .ok (.ishr, 1) := by decide +kernel
theorem dX1_isCutAhead_17 : decode cX1_isCutAhead 17 = .ok (.iconst 1, 1) := by decide +kernel
theorem dX1_isCutAhead_18 : decode cX1_isCutAhead 18 = .ok (.iand, 1) := by decide +kernel
theorem dX1_isCutAhead_19 : decode cX1_isCutAhead 19 = .ok (.ifCond .eq 7, 3) := by decide +kernel
theorem dX1_isCutAhead_22 : decode cX1_isCutAhead 22 = .ok (.iconst 1, 1) := by decide +kernel
theorem dX1_isCutAhead_23 : decode cX1_isCutAhead 23 = .ok (.goto 4, 3) := by decide +kernel
theorem dX1_isCutAhead_26 : decode cX1_isCutAhead 26 = .ok (.iconst 0, 1) := by decide +kernel
theorem dX1_isCutAhead_27 : decode cX1_isCutAhead 27 = .ok (.ireturn, 1) := by decide +kernel
theorem dX1_straddles_0 : decode cX1_straddles 0 = .ok (.iconst 0, 1) := by decide +kernel
theorem dX1_straddles_1 : decode cX1_straddles 1 = .ok (.istore_n 2, 1) := by decide +kernel
theorem dX1_straddles_2 : decode cX1_straddles 2 = .ok (.iconst 0, 1) := by decide +kernel
theorem dX1_straddles_3 : decode cX1_straddles 3 = .ok (.istore_n 3, 1) := by decide +kernel
theorem dX1_straddles_4 : decode cX1_straddles 4 = .ok (.iconst 0, 1) := by decide +kernel
theorem dX1_straddles_5 : decode cX1_straddles 5 = .ok (.istore 4, 2) := by decide +kernel
theorem dX1_straddles_7 : decode cX1_straddles 7 = .ok (.iload 4, 2) := by decide +kernel
theorem dX1_straddles_9 : decode cX1_straddles 9 = .ok (.aload_n 0, 1) := by decide +kernel
theorem dX1_straddles_10 : decode cX1_straddles 10 = .ok (.getfield 18, 3) := by decide +kernel
theorem dX1_straddles_13 : decode cX1_straddles 13 = .ok (.getfield 34, 3) := by decide +kernel
theorem dX1_straddles_16 : decode cX1_straddles 16 = .ok (.if_icmp .ge 50, 3) := by decide +kernel
theorem dX1_straddles_19 : decode cX1_straddles 19 = .ok (.aload_n 0, 1) := by decide +kernel
theorem dX1_straddles_20 : decode cX1_straddles 20 = .ok (.iload 4, 2) := by decide +kernel
theorem dX1_straddles_22 : decode cX1_straddles 22 = .ok (.iload_n 1, 1) := by decide +kernel
theorem dX1_straddles_23 : decode cX1_straddles 23 = .ok (.invokevirtual 83, 3) := by decide +kernel
theorem dX1_straddles_26 : decode cX1_straddles 26 = .ok (.ifCond .eq 16, 3) := by decide +kernel
theorem dX1_straddles_29 : decode cX1_straddles 29 = .ok (.iload_n 2, 1) := by decide +kernel
theorem dX1_straddles_30 : decode cX1_straddles 30 = .ok (.aload_n 0, 1) := by decide +kernel
theorem dX1_straddles_31 : decode cX1_straddles 31 = .ok (.getfield 18, 3) := by decide +kernel
theorem dX1_straddles_34 : decode cX1_straddles 34 = .ok (.iload_n 3, 1) := by decide +kernel
theorem dX1_straddles_35 : decode cX1_straddles 35 = .ok (.invokevirtual 45, 3) := by decide +kernel
theorem dX1_straddles_38 : decode cX1_straddles 38 = .ok (.iadd, 1) := by decide +kernel
theorem dX1_straddles_39 : decode cX1_straddles 39 = .ok (.istore_n 2, 1) := by decide +kernel
theorem dX1_straddles_40 : decode cX1_straddles 40 = .ok (.iconst 0, 1) := by decide +kernel
theorem dX1_straddles_41 : decode cX1_straddles 41 = .ok (.istore_n 3, 1) := by decide +kernel
theorem dX1_straddles_42 : decode cX1_straddles 42 = .ok (.iload_n 3, 1) := by decide +kernel
theorem dX1_straddles_43 : decode cX1_straddles 43 = .ok (.aload_n 0, 1) := by decide +kernel
theorem dX1_straddles_44 : decode cX1_straddles 44 = .ok (.getfield 18, 3) := by decide +kernel
theorem dX1_straddles_47 : decode cX1_straddles 47 = .ok (.getfield 25, 3) := by decide +kernel
theorem dX1_straddles_50 : decode cX1_straddles 50 = .ok (.aload_n 0, 1) := by decide +kernel
theorem dX1_straddles_51 : decode cX1_straddles 51 = .ok (.getfield 22, 3) := by decide +kernel
theorem dX1_straddles_54 : decode cX1_straddles 54 = .ok (.iload 4, 2) := by decide +kernel
theorem dX1_straddles_56 : decode cX1_straddles 56 = .ok (.iaload, 1) := by decide +kernel
theorem dX1_straddles_57 : decode cX1_straddles 57 = .ok (.iaload, 1) := by decide +kernel
theorem dX1_straddles_58 : decode cX1_straddles 58 = .ok (.ior, 1) := by decide +kernel
theorem dX1_straddles_59 : decode cX1_straddles 59 = .ok (.istore_n 3, 1) := by decide +kernel
theorem dX1_straddles_60 : decode cX1_straddles 60 = .ok (.iinc 4 1, 3) := by decide +kernel
theorem dX1_straddles_63 : decode cX1_straddles 63 = .ok (.goto (-56), 3) := by decide +kernel
theorem dX1_straddles_66 : decode cX1_straddles 66 = .ok (.iload_n 2, 1) := by decide +kernel
theorem dX1_straddles_67 : decode cX1_straddles 67 = .ok (.aload_n 0, 1) := by decide +kernel
theorem dX1_straddles_68 : decode cX1_straddles 68 = .ok (.getfield 18, 3) := by decide +kernel
theorem dX1_straddles_71 : decode cX1_straddles 71 = .ok (.iload_n 3, 1) := by decide +kernel
theorem dX1_straddles_72 : decode cX1_straddles 72 = .ok (.invokevirtual 45, 3) := by decide +kernel
theorem dX1_straddles_75 : decode cX1_straddles 75 = .ok (.iadd, 1) := by decide +kernel
theorem dX1_straddles_76 : decode cX1_straddles 76 = .ok (.aload_n 0, 1) := by decide +kernel
theorem dX1_straddles_77 : decode cX1_straddles 77 = .ok (.getfield 18, 3) := by decide +kernel
theorem dX1_straddles_80 : decode cX1_straddles 80 = .ok (.aload_n 0, 1) := by decide +kernel
theorem dX1_straddles_81 : decode cX1_straddles 81 = .ok (.getfield 18, 3) := by decide +kernel
theorem dX1_straddles_84 : decode cX1_straddles 84 = .ok (.invokevirtual 86, 3) := by decide +kernel
theorem dX1_straddles_87 : decode cX1_straddles 87 = .ok (.invokevirtual 45, 3) := by decide +kernel
theorem dX1_straddles_90 : decode cX1_straddles 90 = .ok (.isub, 1) := by decide +kernel
theorem dX1_straddles_91 : decode cX1_straddles 91 = .ok (.ireturn, 1) := by decide +kernel
theorem dX1_partOf_0 : decode cX1_partOf 0 = .ok (.aload_n 0, 1) := by decide +kernel
theorem dX1_partOf_1 : decode cX1_partOf 1 = .ok (.iload_n 1, 1) := by decide +kernel
theorem dX1_partOf_2 : decode cX1_partOf 2 = .ok (.invokevirtual 90, 3) := by decide +kernel
theorem dX1_partOf_5 : decode cX1_partOf 5 = .ok (.istore_n 3, 1) := by decide +kernel
theorem dX1_partOf_6 : decode cX1_partOf 6 = .ok (.iconst 0, 1) := by decide +kernel
theorem dX1_partOf_7 : decode cX1_partOf 7 = .ok (.istore 4, 2) := by decide +kernel
theorem dX1_partOf_9 : decode cX1_partOf 9 = .ok (.iconst 1, 1) := by decide +kernel
theorem dX1_partOf_10 : decode cX1_partOf 10 = .ok (.istore 5, 2) := by decide +kernel
theorem dX1_partOf_12 : decode cX1_partOf 12 = .ok (.iload 5, 2) := by decide +kernel
theorem dX1_partOf_14 : decode cX1_partOf 14 = .ok (.iload_n 3, 1) := by decide +kernel
theorem dX1_partOf_15 : decode cX1_partOf 15 = .ok (.if_icmp .gt 29, 3) := by decide +kernel
theorem dX1_partOf_18 : decode cX1_partOf 18 = .ok (.iload 4, 2) := by decide +kernel
theorem dX1_partOf_20 : decode cX1_partOf 20 = .ok (.aload_n 0, 1) := by decide +kernel
theorem dX1_partOf_21 : decode cX1_partOf 21 = .ok (.iload 5, 2) := by decide +kernel
theorem dX1_partOf_23 : decode cX1_partOf 23 = .ok (.iload_n 2, 1) := by decide +kernel
theorem dX1_partOf_24 : decode cX1_partOf 24 = .ok (.invokevirtual 83, 3) := by decide +kernel
theorem dX1_partOf_27 : decode cX1_partOf 27 = .ok (.ifCond .eq 7, 3) := by decide +kernel
theorem dX1_partOf_30 : decode cX1_partOf 30 = .ok (.iconst 1, 1) := by decide +kernel
theorem dX1_partOf_31 : decode cX1_partOf 31 = .ok (.goto 4, 3) := by decide +kernel
theorem dX1_partOf_34 : decode cX1_partOf 34 = .ok (.iconst 0, 1) := by decide +kernel
theorem dX1_partOf_35 : decode cX1_partOf 35 = .ok (.iadd, 1) := by decide +kernel
theorem dX1_partOf_36 : decode cX1_partOf 36 = .ok (.istore 4, 2) := by decide +kernel
theorem dX1_partOf_38 : decode cX1_partOf 38 = .ok (.iinc 5 1, 3) := by decide +kernel
theorem dX1_partOf_41 : decode cX1_partOf 41 = .ok (.goto (-29), 3) := by decide +kernel
theorem dX1_partOf_44 : decode cX1_partOf 44 = .ok (.iload 4, 2) := by decide +kernel
theorem dX1_partOf_46 : decode cX1_partOf 46 = .ok (.ireturn, 1) := by decide +kernel
theorem dX1_yearOfGrave_0 : decode cX1_yearOfGrave 0 = .ok (.aload_n 0, 1) := by decide +kernel
theorem dX1_yearOfGrave_1 : decode cX1_yearOfGrave 1 = .ok (.iload_n 1, 1) := by decide +kernel
theorem dX1_yearOfGrave_2 : decode cX1_yearOfGrave 2 = .ok (.invokevirtual 90, 3) := by decide +kernel
theorem dX1_yearOfGrave_5 : decode cX1_yearOfGrave 5 = .ok (.istore_n 3, 1) := by decide +kernel
theorem dX1_yearOfGrave_6 : decode cX1_yearOfGrave 6 = .ok (.iload_n 2, 1) := by decide +kernel
theorem dX1_yearOfGrave_7 : decode cX1_yearOfGrave 7 = .ok (.ifCond .ne 15, 3) := by decide +kernel
theorem dX1_yearOfGrave_10 : decode cX1_yearOfGrave 10 = .ok (.aload_n 0, 1) := by decide +kernel
theorem dX1_yearOfGrave_11 : decode cX1_yearOfGrave 11 = .ok (.getfield 18, 3) := by decide +kernel
theorem dX1_yearOfGrave_14 : decode cX1_yearOfGrave 14 = .ok (.getfield 93, 3) := by decide +kernel
theorem dX1_yearOfGrave_17 : decode cX1_yearOfGrave 17 = .ok (.iload_n 1, 1) := by decide +kernel
theorem dX1_yearOfGrave_18 : decode cX1_yearOfGrave 18 = .ok (.iaload, 1) := by decide +kernel
theorem dX1_yearOfGrave_19 : decode cX1_yearOfGrave 19 = .ok (.goto 12, 3) := by decide +kernel
theorem dX1_yearOfGrave_22 : decode cX1_yearOfGrave 22 = .ok (.aload_n 0, 1) := by decide +kernel
theorem dX1_yearOfGrave_23 : decode cX1_yearOfGrave 23 = .ok (.getfield 18, 3) := by decide +kernel
theorem dX1_yearOfGrave_26 : decode cX1_yearOfGrave 26 = .ok (.getfield 96, 3) := by decide +kernel
theorem dX1_yearOfGrave_29 : decode cX1_yearOfGrave 29 = .ok (.iload_n 1, 1) := by decide +kernel
theorem dX1_yearOfGrave_30 : decode cX1_yearOfGrave 30 = .ok (.iaload, 1) := by decide +kernel
theorem dX1_yearOfGrave_31 : decode cX1_yearOfGrave 31 = .ok (.istore 4, 2) := by decide +kernel
theorem dX1_yearOfGrave_33 : decode cX1_yearOfGrave 33 = .ok (.iconst 0, 1) := by decide +kernel
theorem dX1_yearOfGrave_34 : decode cX1_yearOfGrave 34 = .ok (.istore 5, 2) := by decide +kernel
theorem dX1_yearOfGrave_36 : decode cX1_yearOfGrave 36 = .ok (.iload 5, 2) := by decide +kernel
theorem dX1_yearOfGrave_38 : decode cX1_yearOfGrave 38 = .ok (.aload_n 0, 1) := by decide +kernel
theorem dX1_yearOfGrave_39 : decode cX1_yearOfGrave 39 = .ok (.getfield 18, 3) := by decide +kernel
theorem dX1_yearOfGrave_42 : decode cX1_yearOfGrave 42 = .ok (.getfield 34, 3) := by decide +kernel
theorem dX1_yearOfGrave_45 : decode cX1_yearOfGrave 45 = .ok (.if_icmp .ge 77, 3) := by decide +kernel
theorem dX1_yearOfGrave_48 : decode cX1_yearOfGrave 48 = .ok (.iload_n 2, 1) := by decide +kernel
theorem dX1_yearOfGrave_49 : decode cX1_yearOfGrave 49 = .ok (.ifCond .ne 34, 3) := by decide +kernel
theorem dX1_yearOfGrave_52 : decode cX1_yearOfGrave 52 = .ok (.iload 5, 2) := by decide +kernel
theorem dX1_yearOfGrave_54 : decode cX1_yearOfGrave 54 = .ok (.iload_n 3, 1) := by decide +kernel
theorem dX1_yearOfGrave_55 : decode cX1_yearOfGrave 55 = .ok (.if_icmp .ge 28, 3) := by decide +kernel
theorem dX1_yearOfGrave_58 : decode cX1_yearOfGrave 58 = .ok (.iload 4, 2) := by decide +kernel
theorem dX1_yearOfGrave_60 : decode cX1_yearOfGrave 60 = .ok (.aload_n 0, 1) := by decide +kernel
theorem dX1_yearOfGrave_61 : decode cX1_yearOfGrave 61 = .ok (.getfield 18, 3) := by decide +kernel
theorem dX1_yearOfGrave_64 : decode cX1_yearOfGrave 64 = .ok (.getfield 93, 3) := by decide +kernel
theorem dX1_yearOfGrave_67 : decode cX1_yearOfGrave 67 = .ok (.aload_n 0, 1) := by decide +kernel
theorem dX1_yearOfGrave_68 : decode cX1_yearOfGrave 68 = .ok (.getfield 22, 3) := by decide +kernel
theorem dX1_yearOfGrave_71 : decode cX1_yearOfGrave 71 = .ok (.iload 5, 2) := by decide +kernel
theorem dX1_yearOfGrave_73 : decode cX1_yearOfGrave 73 = .ok (.iaload, 1) := by decide +kernel
theorem dX1_yearOfGrave_74 : decode cX1_yearOfGrave 74 = .ok (.iaload, 1) := by decide +kernel
theorem dX1_yearOfGrave_75 : decode cX1_yearOfGrave 75 = .ok (.invokestatic 72, 3) := by decide +kernel
theorem dX1_yearOfGrave_78 : decode cX1_yearOfGrave 78 = .ok (.istore 4, 2) := by decide +kernel
theorem dX1_yearOfGrave_80 : decode cX1_yearOfGrave 80 = .ok (.goto 36, 3) := by decide +kernel
theorem dX1_yearOfGrave_83 : decode cX1_yearOfGrave 83 = .ok (.iload_n 2, 1) := by decide +kernel
theorem dX1_yearOfGrave_84 : decode cX1_yearOfGrave 84 = .ok (.iconst 1, 1) := by decide +kernel
theorem dX1_yearOfGrave_85 : decode cX1_yearOfGrave 85 = .ok (.if_icmp .ne 31, 3) := by decide +kernel
theorem dX1_yearOfGrave_88 : decode cX1_yearOfGrave 88 = .ok (.iload 5, 2) := by decide +kernel
theorem dX1_yearOfGrave_90 : decode cX1_yearOfGrave 90 = .ok (.iload_n 3, 1) := by decide +kernel
theorem dX1_yearOfGrave_91 : decode cX1_yearOfGrave 91 = .ok (.if_icmp .le 25, 3) := by decide +kernel
theorem dX1_yearOfGrave_94 : decode cX1_yearOfGrave 94 = .ok (.iload 4, 2) := by decide +kernel
theorem dX1_yearOfGrave_96 : decode cX1_yearOfGrave 96 = .ok (.aload_n 0, 1) := by decide +kernel
theorem dX1_yearOfGrave_97 : decode cX1_yearOfGrave 97 = .ok (.getfield 18, 3) := by decide +kernel
theorem dX1_yearOfGrave_100 : decode cX1_yearOfGrave 100 = .ok (.getfield 96, 3) := by decide +kernel
theorem dX1_yearOfGrave_103 : decode cX1_yearOfGrave 103 = .ok (.aload_n 0, 1) := by decide +kernel
theorem dX1_yearOfGrave_104 : decode cX1_yearOfGrave 104 = .ok (.getfield 22, 3) := by decide +kernel
theorem dX1_yearOfGrave_107 : decode cX1_yearOfGrave 107 = .ok (.iload 5, 2) := by decide +kernel
theorem dX1_yearOfGrave_109 : decode cX1_yearOfGrave 109 = .ok (.iaload, 1) := by decide +kernel
theorem dX1_yearOfGrave_110 : decode cX1_yearOfGrave 110 = .ok (.iaload, 1) := by decide +kernel
theorem dX1_yearOfGrave_111 : decode cX1_yearOfGrave 111 = .ok (.invokestatic 56, 3) := by decide +kernel
theorem dX1_yearOfGrave_114 : decode cX1_yearOfGrave 114 = .ok (.istore 4, 2) := by decide +kernel
theorem dX1_yearOfGrave_116 : decode cX1_yearOfGrave 116 = .ok (.iinc 5 1, 3) := by decide +kernel
theorem dX1_yearOfGrave_119 : decode cX1_yearOfGrave 119 = .ok (.goto (-83), 3) := by decide +kernel
theorem dX1_yearOfGrave_122 : decode cX1_yearOfGrave 122 = .ok (.iload 4, 2) := by decide +kernel
theorem dX1_yearOfGrave_124 : decode cX1_yearOfGrave 124 = .ok (.ireturn, 1) := by decide +kernel
theorem dX1_yearOfKind_0 : decode cX1_yearOfKind 0 = .ok (.iload_n 2, 1) := by decide +kernel
theorem dX1_yearOfKind_1 : decode cX1_yearOfKind 1 = .ok (.ifCond .ne 8, 3) := by decide +kernel
theorem dX1_yearOfKind_4 : decode cX1_yearOfKind 4 = .ok (.bipush 99, 2) := by decide +kernel
theorem dX1_yearOfKind_6 : decode cX1_yearOfKind 6 = .ok (.goto 4, 3) := by decide +kernel
theorem dX1_yearOfKind_9 : decode cX1_yearOfKind 9 = .ok (.iconst 0, 1) := by decide +kernel
theorem dX1_yearOfKind_10 : decode cX1_yearOfKind 10 = .ok (.istore_n 3, 1) := by decide +kernel
theorem dX1_yearOfKind_11 : decode cX1_yearOfKind 11 = .ok (.iconst 0, 1) := by decide +kernel
theorem dX1_yearOfKind_12 : decode cX1_yearOfKind 12 = .ok (.istore 4, 2) := by decide +kernel
theorem dX1_yearOfKind_14 : decode cX1_yearOfKind 14 = .ok (.iload 4, 2) := by decide +kernel
theorem dX1_yearOfKind_16 : decode cX1_yearOfKind 16 = .ok (.aload_n 0, 1) := by decide +kernel
theorem dX1_yearOfKind_17 : decode cX1_yearOfKind 17 = .ok (.getfield 18, 3) := by decide +kernel
theorem dX1_yearOfKind_20 : decode cX1_yearOfKind 20 = .ok (.getfield 34, 3) := by decide +kernel
theorem dX1_yearOfKind_23 : decode cX1_yearOfKind 23 = .ok (.if_icmp .ge 53, 3) := by decide +kernel
theorem dX1_yearOfKind_26 : decode cX1_yearOfKind 26 = .ok (.aload_n 0, 1) := by decide +kernel
theorem dX1_yearOfKind_27 : decode cX1_yearOfKind 27 = .ok (.iload 4, 2) := by decide +kernel
theorem dX1_yearOfKind_29 : decode cX1_yearOfKind 29 = .ok (.iload_n 1, 1) := by decide +kernel
theorem dX1_yearOfKind_30 : decode cX1_yearOfKind 30 = .ok (.invokevirtual 61, 3) := by decide +kernel
theorem dX1_yearOfKind_33 : decode cX1_yearOfKind 33 = .ok (.ifCond .eq 37, 3) := by decide +kernel
theorem dX1_yearOfKind_36 : decode cX1_yearOfKind 36 = .ok (.aload_n 0, 1) := by decide +kernel
theorem dX1_yearOfKind_37 : decode cX1_yearOfKind 37 = .ok (.aload_n 0, 1) := by decide +kernel
theorem dX1_yearOfKind_38 : decode cX1_yearOfKind 38 = .ok (.getfield 22, 3) := by decide +kernel
theorem dX1_yearOfKind_41 : decode cX1_yearOfKind 41 = .ok (.iload 4, 2) := by decide +kernel
theorem dX1_yearOfKind_43 : decode cX1_yearOfKind 43 = .ok (.iaload, 1) := by decide +kernel
theorem dX1_yearOfKind_44 : decode cX1_yearOfKind 44 = .ok (.iload_n 2, 1) := by decide +kernel
theorem dX1_yearOfKind_45 : decode cX1_yearOfKind 45 = .ok (.invokevirtual 99, 3) := by decide +kernel
theorem dX1_yearOfKind_48 : decode cX1_yearOfKind 48 = .ok (.istore 5, 2) := by decide +kernel
theorem dX1_yearOfKind_50 : decode cX1_yearOfKind 50 = .ok (.iload_n 2, 1) := by decide +kernel
theorem dX1_yearOfKind_51 : decode cX1_yearOfKind 51 = .ok (.ifCond .ne 12, 3) := by decide +kernel
theorem dX1_yearOfKind_54 : decode cX1_yearOfKind 54 = .ok (.iload_n 3, 1) := by decide +kernel
theorem dX1_yearOfKind_55 : decode cX1_yearOfKind 55 = .ok (.iload 5, 2) := by decide +kernel
theorem dX1_yearOfKind_57 : decode cX1_yearOfKind 57 = .ok (.invokestatic 56, 3) := by decide +kernel
theorem dX1_yearOfKind_60 : decode cX1_yearOfKind 60 = .ok (.goto 9, 3) := by decide +kernel
theorem dX1_yearOfKind_63 : decode cX1_yearOfKind 63 = .ok (.iload_n 3, 1) := by decide +kernel
theorem dX1_yearOfKind_64 : decode cX1_yearOfKind 64 = .ok (.iload 5, 2) := by decide +kernel
theorem dX1_yearOfKind_66 : decode cX1_yearOfKind 66 = .ok (.invokestatic 72, 3) := by decide +kernel
theorem dX1_yearOfKind_69 : decode cX1_yearOfKind 69 = .ok (.istore_n 3, 1) := by decide +kernel
theorem dX1_yearOfKind_70 : decode cX1_yearOfKind 70 = .ok (.iinc 4 1, 3) := by decide +kernel
theorem dX1_yearOfKind_73 : decode cX1_yearOfKind 73 = .ok (.goto (-59), 3) := by decide +kernel
theorem dX1_yearOfKind_76 : decode cX1_yearOfKind 76 = .ok (.iload_n 3, 1) := by decide +kernel
theorem dX1_yearOfKind_77 : decode cX1_yearOfKind 77 = .ok (.ireturn, 1) := by decide +kernel
theorem dX2_init_0 : decode cX2_init 0 = .ok (.aload_n 0, 1) := by decide +kernel
theorem dX2_init_1 : decode cX2_init 1 = .ok (.invokespecial 3, 3) := by decide +kernel
theorem dX2_init_4 : decode cX2_init 4 = .ok (.aload_n 0, 1) := by decide +kernel
theorem dX2_init_5 : decode cX2_init 5 = .ok (.bipush 40, 2) := by decide +kernel
theorem dX2_init_7 : decode cX2_init 7 = .ok (.newarray .int, 2) := by decide +kernel
theorem dX2_init_9 : decode cX2_init 9 = .ok (.putfield 9, 3) := by decide +kernel
theorem dX2_init_12 : decode cX2_init 12 = .ok (.aload_n 0, 1) := by decide +kernel
theorem dX2_init_13 : decode cX2_init 13 = .ok (.iconst 0, 1) := by decide +kernel
theorem dX2_init_14 : decode cX2_init 14 = .ok (.putfield 15, 3) := by decide +kernel
theorem dX2_init_17 : decode cX2_init 17 = .ok (.return_, 1) := by decide +kernel
theorem dX2_follow_0 : decode cX2_follow 0 = .ok (.iload_n 1, 1) := by decide +kernel
theorem dX2_follow_1 : decode cX2_follow 1 = .ok (.bipush 48, 2) := by decide +kernel
theorem dX2_follow_3 : decode cX2_follow 3 = .ok (.if_icmp .lt 13, 3) := by decide +kernel
theorem dX2_follow_6 : decode cX2_follow 6 = .ok (.iload_n 1, 1) := by decide +kernel
theorem dX2_follow_7 : decode cX2_follow 7 = .ok (.bipush 57, 2) := by decide +kernel
theorem dX2_follow_9 : decode cX2_follow 9 = .ok (.if_icmp .gt 7, 3) := by decide +kernel
theorem dX2_follow_12 : decode cX2_follow 12 = .ok (.iconst 1, 1) := by decide +kernel
theorem dX2_follow_13 : decode cX2_follow 13 = .ok (.goto 4, 3) := by decide +kernel
theorem dX2_follow_16 : decode cX2_follow 16 = .ok (.iconst 0, 1) := by decide +kernel
theorem dX2_follow_17 : decode cX2_follow 17 = .ok (.istore_n 3, 1) := by decide +kernel
theorem dX2_follow_18 : decode cX2_follow 18 = .ok (.iload_n 0, 1) := by decide +kernel
theorem dX2_follow_19 : decode cX2_follow 19 = .ok (.tableswitch 111 0 4 #[33, 51, 63, 81, 91], 33) := by decide +kernel
theorem dX2_follow_52 : decode cX2_follow 52 = .ok (.iload_n 3, 1) := by decide +kernel
theorem dX2_follow_53 : decode cX2_follow 53 = .ok (.ifCond .eq 15, 3) := by decide +kernel
theorem dX2_follow_56 : decode cX2_follow 56 = .ok (.iload_n 1, 1) := by decide +kernel
theorem dX2_follow_57 : decode cX2_follow 57 = .ok (.bipush 48, 2) := by decide +kernel
theorem dX2_follow_59 : decode cX2_follow 59 = .ok (.isub, 1) := by decide +kernel
theorem dX2_follow_60 : decode cX2_follow 60 = .ok (.iload_n 2, 1) := by decide +kernel
theorem dX2_follow_61 : decode cX2_follow 61 = .ok (.if_icmp .ge 7, 3) := by decide +kernel
theorem dX2_follow_64 : decode cX2_follow 64 = .ok (.iconst 1, 1) := by decide +kernel
theorem dX2_follow_65 : decode cX2_follow 65 = .ok (.goto 4, 3) := by decide +kernel
theorem dX2_follow_68 : decode cX2_follow 68 = .ok (.iconst 5, 1) := by decide +kernel
theorem dX2_follow_69 : decode cX2_follow 69 = .ok (.ireturn, 1) := by decide +kernel
theorem dX2_follow_70 : decode cX2_follow 70 = .ok (.iload_n 1, 1) := by decide +kernel
theorem dX2_follow_71 : decode cX2_follow 71 = .ok (.bipush 58, 2) := by decide +kernel
theorem dX2_follow_73 : decode cX2_follow 73 = .ok (.if_icmp .ne 7, 3) := by decide +kernel
theorem dX2_follow_76 : decode cX2_follow 76 = .ok (.iconst 2, 1) := by decide +kernel
theorem dX2_follow_77 : decode cX2_follow 77 = .ok (.goto 4, 3) := by decide +kernel
theorem dX2_follow_80 : decode cX2_follow 80 = .ok (.iconst 5, 1) := by decide +kernel
theorem dX2_follow_81 : decode cX2_follow 81 = .ok (.ireturn, 1) := by decide +kernel
theorem dX2_follow_82 : decode cX2_follow 82 = .ok (.iload_n 1, 1) := by decide +kernel
theorem dX2_follow_83 : decode cX2_follow 83 = .ok (.bipush 45, 2) := by decide +kernel
theorem dX2_follow_85 : decode cX2_follow 85 = .ok (.if_icmp .ne 5, 3) := by decide +kernel
theorem dX2_follow_88 : decode cX2_follow 88 = .ok (.iconst 3, 1) := by decide +kernel
theorem dX2_follow_89 : decode cX2_follow 89 = .ok (.ireturn, 1) := by decide +kernel
theorem dX2_follow_90 : decode cX2_follow 90 = .ok (.iload_n 3, 1) := by decide +kernel
theorem dX2_follow_91 : decode cX2_follow 91 = .ok (.ifCond .eq 7, 3) := by decide +kernel
theorem dX2_follow_94 : decode cX2_follow 94 = .ok (.iconst 4, 1) := by decide +kernel
theorem dX2_follow_95 : decode cX2_follow 95 = .ok (.goto 4, 3) := by decide +kernel
theorem dX2_follow_98 : decode cX2_follow 98 = .ok (.iconst 5, 1) := by decide +kernel
theorem dX2_follow_99 : decode cX2_follow 99 = .ok (.ireturn, 1) := by decide +kernel
theorem dX2_follow_100 : decode cX2_follow 100 = .ok (.iload_n 3, 1) := by decide +kernel
theorem dX2_follow_101 : decode cX2_follow 101 = .ok (.ifCond .eq 7, 3) := by decide +kernel
theorem dX2_follow_104 : decode cX2_follow 104 = .ok (.iconst 4, 1) := by decide +kernel
theorem dX2_follow_105 : decode cX2_follow 105 = .ok (.goto 4, 3) := by decide +kernel
theorem dX2_follow_108 : decode cX2_follow 108 = .ok (.iconst 5, 1) := by decide +kernel
theorem dX2_follow_109 : decode cX2_follow 109 = .ok (.ireturn, 1) := by decide +kernel
theorem dX2_follow_110 : decode cX2_follow 110 = .ok (.iload_n 1, 1) := by decide +kernel
theorem dX2_follow_111 : decode cX2_follow 111 = .ok (.bipush 44, 2) := by decide +kernel
theorem dX2_follow_113 : decode cX2_follow 113 = .ok (.if_icmp .ne 5, 3) := by decide +kernel
theorem dX2_follow_116 : decode cX2_follow 116 = .ok (.iconst 2, 1) := by decide +kernel
theorem dX2_follow_117 : decode cX2_follow 117 = .ok (.ireturn, 1) := by decide +kernel
theorem dX2_follow_118 : decode cX2_follow 118 = .ok (.iload_n 1, 1) := by decide +kernel
theorem dX2_follow_119 : decode cX2_follow 119 = .ok (.bipush 59, 2) := by decide +kernel
theorem dX2_follow_121 : decode cX2_follow 121 = .ok (.if_icmp .ne 7, 3) := by decide +kernel
theorem dX2_follow_124 : decode cX2_follow 124 = .ok (.iconst 0, 1) := by decide +kernel
theorem dX2_follow_125 : decode cX2_follow 125 = .ok (.goto 4, 3) := by decide +kernel
theorem dX2_follow_128 : decode cX2_follow 128 = .ok (.iconst 5, 1) := by decide +kernel
theorem dX2_follow_129 : decode cX2_follow 129 = .ok (.ireturn, 1) := by decide +kernel
theorem dX2_follow_130 : decode cX2_follow 130 = .ok (.iconst 5, 1) := by decide +kernel
theorem dX2_follow_131 : decode cX2_follow 131 = .ok (.ireturn, 1) := by decide +kernel
theorem dX2_firstFault_0 : decode cX2_firstFault 0 = .ok (.iconst 0, 1) := by decide +kernel
theorem dX2_firstFault_1 : decode cX2_firstFault 1 = .ok (.istore_n 2, 1) := by decide +kernel
theorem dX2_firstFault_2 : decode cX2_firstFault 2 = .ok (.iconst 0, 1) := by decide +kernel
theorem dX2_firstFault_3 : decode cX2_firstFault 3 = .ok (.istore_n 3, 1) := by decide +kernel
theorem dX2_firstFault_4 : decode cX2_firstFault 4 = .ok (.iload_n 3, 1) := by decide +kernel
theorem dX2_firstFault_5 : decode cX2_firstFault 5 = .ok (.aload_n 0, 1) := by decide +kernel
theorem dX2_firstFault_6 : decode cX2_firstFault 6 = .ok (.getfield 15, 3) := by decide +kernel
theorem dX2_firstFault_9 : decode cX2_firstFault 9 = .ok (.if_icmp .ge 28, 3) := by decide +kernel
theorem dX2_firstFault_12 : decode cX2_firstFault 12 = .ok (.iload_n 2, 1) := by decide +kernel
theorem dX2_firstFault_13 : decode cX2_firstFault 13 = .ok (.aload_n 0, 1) := by decide +kernel
theorem dX2_firstFault_14 : decode cX2_firstFault 14 = .ok (.getfield 9, 3) := by decide +kernel
theorem dX2_firstFault_17 : decode cX2_firstFault 17 = .ok (.iload_n 3, 1) := by decide +kernel
theorem dX2_firstFault_18 : decode cX2_firstFault 18 = .ok (.iaload, 1) := by decide +kernel
theorem dX2_firstFault_19 : decode cX2_firstFault 19 = .ok (.iload_n 1, 1) := by decide +kernel
theorem dX2_firstFault_20 : decode cX2_firstFault 20 = .ok (.invokestatic 19, 3) := by decide +kernel
theorem dX2_firstFault_23 : decode cX2_firstFault 23 = .ok (.istore_n 2, 1) := by decide +kernel
theorem dX2_firstFault_24 : decode cX2_firstFault 24 = .ok (.iload_n 2, 1) := by decide +kernel
theorem dX2_firstFault_25 : decode cX2_firstFault 25 = .ok (.iconst 5, 1) := by decide +kernel
theorem dX2_firstFault_26 : decode cX2_firstFault 26 = .ok (.if_icmp .ne 5, 3) := by decide +kernel
theorem dX2_firstFault_29 : decode cX2_firstFault 29 = .ok (.iload_n 3, 1) := by decide +kernel
theorem dX2_firstFault_30 : decode cX2_firstFault 30 = .ok (.ireturn, 1) := by decide +kernel
theorem dX2_firstFault_31 : decode cX2_firstFault 31 = .ok (.iinc 3 1, 3) := by decide +kernel
theorem dX2_firstFault_34 : decode cX2_firstFault 34 = .ok (.goto (-30), 3) := by decide +kernel
theorem dX2_firstFault_37 : decode cX2_firstFault 37 = .ok (.iload_n 2, 1) := by decide +kernel
theorem dX2_firstFault_38 : decode cX2_firstFault 38 = .ok (.iconst 4, 1) := by decide +kernel
theorem dX2_firstFault_39 : decode cX2_firstFault 39 = .ok (.if_icmp .ne 7, 3) := by decide +kernel
theorem dX2_firstFault_42 : decode cX2_firstFault 42 = .ok (.iconst (-1), 1) := by decide +kernel
theorem dX2_firstFault_43 : decode cX2_firstFault 43 = .ok (.goto 7, 3) := by decide +kernel
theorem dX2_firstFault_46 : decode cX2_firstFault 46 = .ok (.aload_n 0, 1) := by decide +kernel
theorem dX2_firstFault_47 : decode cX2_firstFault 47 = .ok (.getfield 15, 3) := by decide +kernel
theorem dX2_firstFault_50 : decode cX2_firstFault 50 = .ok (.ireturn, 1) := by decide +kernel
theorem dX3_init_0 : decode cX3_init 0 = .ok (.aload_n 0, 1) := by decide +kernel
theorem dX3_init_1 : decode cX3_init 1 = .ok (.invokespecial 3, 3) := by decide +kernel
theorem dX3_init_4 : decode cX3_init 4 = .ok (.aload_n 0, 1) := by decide +kernel
theorem dX3_init_5 : decode cX3_init 5 = .ok (.sipush 256, 3) := by decide +kernel
theorem dX3_init_8 : decode cX3_init 8 = .ok (.newarray .int, 2) := by decide +kernel
theorem dX3_init_10 : decode cX3_init 10 = .ok (.putfield 9, 3) := by decide +kernel
theorem dX3_init_13 : decode cX3_init 13 = .ok (.aload_n 0, 1) := by decide +kernel
theorem dX3_init_14 : decode cX3_init 14 = .ok (.sipush 256, 3) := by decide +kernel
theorem dX3_init_17 : decode cX3_init 17 = .ok (.newarray .int, 2) := by decide +kernel
theorem dX3_init_19 : decode cX3_init 19 = .ok (.putfield 15, 3) := by decide +kernel
theorem dX3_init_22 : decode cX3_init 22 = .ok (.aload_n 0, 1) := by decide +kernel
theorem dX3_init_23 : decode cX3_init 23 = .ok (.sipush 2048, 3) := by decide +kernel
theorem dX3_init_26 : decode cX3_init 26 = .ok (.newarray .int, 2) := by decide +kernel
theorem dX3_init_28 : decode cX3_init 28 = .ok (.putfield 18, 3) := by decide +kernel
theorem dX3_init_31 : decode cX3_init 31 = .ok (.aload_n 0, 1) := by decide +kernel
theorem dX3_init_32 : decode cX3_init 32 = .ok (.sipush 256, 3) := by decide +kernel
theorem dX3_init_35 : decode cX3_init 35 = .ok (.newarray .int, 2) := by decide +kernel
theorem dX3_init_37 : decode cX3_init 37 = .ok (.putfield 21, 3) := by decide +kernel
theorem dX3_init_40 : decode cX3_init 40 = .ok (.aload_n 0, 1) := by decide +kernel
theorem dX3_init_41 : decode cX3_init 41 = .ok (.sipush 256, 3) := by decide +kernel
theorem dX3_init_44 : decode cX3_init 44 = .ok (.newarray .int, 2) := by decide +kernel
theorem dX3_init_46 : decode cX3_init 46 = .ok (.putfield 24, 3) := by decide +kernel
theorem dX3_init_49 : decode cX3_init 49 = .ok (.aload_n 0, 1) := by decide +kernel
theorem dX3_init_50 : decode cX3_init 50 = .ok (.sipush 256, 3) := by decide +kernel
theorem dX3_init_53 : decode cX3_init 53 = .ok (.newarray .int, 2) := by decide +kernel
theorem dX3_init_55 : decode cX3_init 55 = .ok (.putfield 27, 3) := by decide +kernel
theorem dX3_init_58 : decode cX3_init 58 = .ok (.aload_n 0, 1) := by decide +kernel
theorem dX3_init_59 : decode cX3_init 59 = .ok (.bipush 8, 2) := by decide +kernel
theorem dX3_init_61 : decode cX3_init 61 = .ok (.newarray .int, 2) := by decide +kernel
theorem dX3_init_63 : decode cX3_init 63 = .ok (.putfield 30, 3) := by decide +kernel
theorem dX3_init_66 : decode cX3_init 66 = .ok (.aload_n 0, 1) := by decide +kernel
theorem dX3_init_67 : decode cX3_init 67 = .ok (.sipush 181, 3) := by decide +kernel
theorem dX3_init_70 : decode cX3_init 70 = .ok (.newarray .int, 2) := by decide +kernel
theorem dX3_init_72 : decode cX3_init 72 = .ok (.putfield 33, 3) := by decide +kernel
theorem dX3_init_75 : decode cX3_init 75 = .ok (.aload_n 0, 1) := by decide +kernel
theorem dX3_init_76 : decode cX3_init 76 = .ok (.bipush 24, 2) := by decide +kernel
theorem dX3_init_78 : decode cX3_init 78 = .ok (.newarray .int, 2) := by decide +kernel
theorem dX3_init_80 : decode cX3_init 80 = .ok (.putfield 36, 3) := by decide +kernel
theorem dX3_init_83 : decode cX3_init 83 = .ok (.aload_n 0, 1) := by decide +kernel
theorem dX3_init_84 : decode cX3_init 84 = .ok (.bipush 24, 2) := by decide +kernel
theorem dX3_init_86 : decode cX3_init 86 = .ok (.newarray .int, 2) := by decide +kernel
theorem dX3_init_88 : decode cX3_init 88 = .ok (.putfield 39, 3) := by decide +kernel
theorem dX3_init_91 : decode cX3_init 91 = .ok (.aload_n 0, 1) := by decide +kernel
theorem dX3_init_92 : decode cX3_init 92 = .ok (.sipush 256, 3) := by decide +kernel
theorem dX3_init_95 : decode cX3_init 95 = .ok (.newarray .boolean, 2) := by decide +kernel
theorem dX3_init_97 : decode cX3_init 97 = .ok (.putfield 42, 3) := by decide +kernel
theorem dX3_init_100 : decode cX3_init 100 = .ok (.aload_n 0, 1) := by decide +kernel
theorem dX3_init_101 : decode cX3_init 101 = .ok (.iconst 1, 1) := by decide +kernel
theorem dX3_init_102 : decode cX3_init 102 = .ok (.putfield 46, 3) := by decide +kernel
theorem dX3_init_105 : decode cX3_init 105 = .ok (.aload_n 0, 1) := by decide +kernel
theorem dX3_init_106 : decode cX3_init 106 = .ok (.iconst 1, 1) := by decide +kernel
theorem dX3_init_107 : decode cX3_init 107 = .ok (.putfield 50, 3) := by decide +kernel
theorem dX3_init_110 : decode cX3_init 110 = .ok (.aload_n 0, 1) := by decide +kernel
theorem dX3_init_111 : decode cX3_init 111 = .ok (.iconst 1, 1) := by decide +kernel
theorem dX3_init_112 : decode cX3_init 112 = .ok (.putfield 53, 3) := by decide +kernel
theorem dX3_init_115 : decode cX3_init 115 = .ok (.aload_n 0, 1) := by decide +kernel
theorem dX3_init_116 : decode cX3_init 116 = .ok (.iconst 0, 1) := by decide +kernel
theorem dX3_init_117 : decode cX3_init 117 = .ok (.putfield 56, 3) := by decide +kernel
theorem dX3_init_120 : decode cX3_init 120 = .ok (.aload_n 0, 1) := by decide +kernel
theorem dX3_init_121 : decode cX3_init 121 = .ok (.aload_n 1, 1) := by decide +kernel
theorem dX3_init_122 : decode cX3_init 122 = .ok (.putfield 60, 3) := by decide +kernel
theorem dX3_init_125 : decode cX3_init 125 = .ok (.return_, 1) := by decide +kernel
theorem dX3_settle_0 : decode cX3_settle 0 = .ok (.aload_n 0, 1) := by decide +kernel
theorem dX3_settle_1 : decode cX3_settle 1 = .ok (.getfield 46, 3) := by decide +kernel
theorem dX3_settle_4 : decode cX3_settle 4 = .ok (.ifCond .eq 38, 3) := by decide +kernel
theorem dX3_settle_7 : decode cX3_settle 7 = .ok (.aload_n 0, 1) := by decide +kernel
theorem dX3_settle_8 : decode cX3_settle 8 = .ok (.invokevirtual 64, 3) := by decide +kernel
theorem dX3_settle_11 : decode cX3_settle 11 = .ok (.aload_n 0, 1) := by decide +kernel
theorem dX3_settle_12 : decode cX3_settle 12 = .ok (.invokevirtual 67, 3) := by decide +kernel
theorem dX3_settle_15 : decode cX3_settle 15 = .ok (.aload_n 0, 1) := by decide +kernel
theorem dX3_settle_16 : decode cX3_settle 16 = .ok (.invokevirtual 70, 3) := by decide +kernel
theorem dX3_settle_19 : decode cX3_settle 19 = .ok (.aload_n 0, 1) := by decide +kernel
theorem dX3_settle_20 : decode cX3_settle 20 = .ok (.invokevirtual 73, 3) := by decide +kernel
theorem dX3_settle_23 : decode cX3_settle 23 = .ok (.aload_n 0, 1) := by decide +kernel
theorem dX3_settle_24 : decode cX3_settle 24 = .ok (.invokevirtual 76, 3) := by decide +kernel
theorem dX3_settle_27 : decode cX3_settle 27 = .ok (.aload_n 0, 1) := by decide +kernel
theorem dX3_settle_28 : decode cX3_settle 28 = .ok (.iconst 0, 1) := by decide +kernel
theorem dX3_settle_29 : decode cX3_settle 29 = .ok (.putfield 46, 3) := by decide +kernel
theorem dX3_settle_32 : decode cX3_settle 32 = .ok (.aload_n 0, 1) := by decide +kernel
theorem dX3_settle_33 : decode cX3_settle 33 = .ok (.iconst 1, 1) := by decide +kernel
theorem dX3_settle_34 : decode cX3_settle 34 = .ok (.putfield 50, 3) := by decide +kernel
theorem dX3_settle_37 : decode cX3_settle 37 = .ok (.aload_n 0, 1) := by decide +kernel
theorem dX3_settle_38 : decode cX3_settle 38 = .ok (.iconst 1, 1) := by decide +kernel
theorem dX3_settle_39 : decode cX3_settle 39 = .ok (.putfield 53, 3) := by decide +kernel
theorem dX3_settle_42 : decode cX3_settle 42 = .ok (.aload_n 0, 1) := by decide +kernel
theorem dX3_settle_43 : decode cX3_settle 43 = .ok (.getfield 27, 3) := by decide +kernel
theorem dX3_settle_46 : decode cX3_settle 46 = .ok (.iconst 0, 1) := by decide +kernel
theorem dX3_settle_47 : decode cX3_settle 47 = .ok (.iaload, 1) := by decide +kernel
theorem dX3_settle_48 : decode cX3_settle 48 = .ok (.ifCond .le 7, 3) := by decide +kernel
theorem dX3_settle_51 : decode cX3_settle 51 = .ok (.iconst 1, 1) := by decide +kernel
theorem dX3_settle_52 : decode cX3_settle 52 = .ok (.goto 4, 3) := by decide +kernel
theorem dX3_settle_55 : decode cX3_settle 55 = .ok (.iconst 0, 1) := by decide +kernel
theorem dX3_settle_56 : decode cX3_settle 56 = .ok (.ireturn, 1) := by decide +kernel
theorem dX3_allGraves_0 : decode cX3_allGraves 0 = .ok (.iconst 1, 1) := by decide +kernel
theorem dX3_allGraves_1 : decode cX3_allGraves 1 = .ok (.aload_n 0, 1) := by decide +kernel
theorem dX3_allGraves_2 : decode cX3_allGraves 2 = .ok (.getfield 60, 3) := by decide +kernel
theorem dX3_allGraves_5 : decode cX3_allGraves 5 = .ok (.getfield 79, 3) := by decide +kernel
theorem dX3_allGraves_8 : decode cX3_allGraves 8 = .ok (.ishl, 1) := by decide +kernel
theorem dX3_allGraves_9 : decode cX3_allGraves 9 = .ok (.iconst 1, 1) := by decide +kernel
theorem dX3_allGraves_10 : decode cX3_allGraves 10 = .ok (.isub, 1) := by decide +kernel
theorem dX3_allGraves_11 : decode cX3_allGraves 11 = .ok (.ireturn, 1) := by decide +kernel
theorem dX3_fillSets_0 : decode cX3_fillSets 0 = .ok (.aload_n 0, 1) := by decide +kernel
theorem dX3_fillSets_1 : decode cX3_fillSets 1 = .ok (.invokevirtual 84, 3) := by decide +kernel
theorem dX3_fillSets_4 : decode cX3_fillSets 4 = .ok (.istore_n 1, 1) := by decide +kernel
theorem dX3_fillSets_5 : decode cX3_fillSets 5 = .ok (.aload_n 0, 1) := by decide +kernel
theorem dX3_fillSets_6 : decode cX3_fillSets 6 = .ok (.getfield 9, 3) := by decide +kernel
theorem dX3_fillSets_9 : decode cX3_fillSets 9 = .ok (.iconst 0, 1) := by decide +kernel
theorem dX3_fillSets_10 : decode cX3_fillSets 10 = .ok (.iconst 0, 1) := by decide +kernel
theorem dX3_fillSets_11 : decode cX3_fillSets 11 = .ok (.iastore, 1) := by decide +kernel
theorem dX3_fillSets_12 : decode cX3_fillSets 12 = .ok (.aload_n 0, 1) := by decide +kernel
theorem dX3_fillSets_13 : decode cX3_fillSets 13 = .ok (.getfield 15, 3) := by decide +kernel
theorem dX3_fillSets_16 : decode cX3_fillSets 16 = .ok (.iconst 0, 1) := by decide +kernel
theorem dX3_fillSets_17 : decode cX3_fillSets 17 = .ok (.iconst 0, 1) := by decide +kernel
theorem dX3_fillSets_18 : decode cX3_fillSets 18 = .ok (.iastore, 1) := by decide +kernel
theorem dX3_fillSets_19 : decode cX3_fillSets 19 = .ok (.iconst 1, 1) := by decide +kernel
theorem dX3_fillSets_20 : decode cX3_fillSets 20 = .ok (.istore_n 2, 1) := by decide +kernel
theorem dX3_fillSets_21 : decode cX3_fillSets 21 = .ok (.iload_n 2, 1) := by decide +kernel
theorem dX3_fillSets_22 : decode cX3_fillSets 22 = .ok (.iload_n 1, 1) := by decide +kernel
theorem dX3_fillSets_23 : decode cX3_fillSets 23 = .ok (.if_icmp .gt 69, 3) := by decide +kernel
theorem dX3_fillSets_26 : decode cX3_fillSets 26 = .ok (.iload_n 2, 1) := by decide +kernel
theorem dX3_fillSets_27 : decode cX3_fillSets 27 = .ok (.invokestatic 88, 3) := by decide +kernel
theorem dX3_fillSets_30 : decode cX3_fillSets 30 = .ok (.istore_n 3, 1) := by decide +kernel
theorem dX3_fillSets_31 : decode cX3_fillSets 31 = .ok (.iload_n 2, 1) := by decide +kernel
theorem dX3_fillSets_32 : decode cX3_fillSets 32 = .ok (.iload_n 2, 1) := by decide +kernel
theorem dX3_fillSets_33 : decode cX3_fillSets 33 = .ok (.iconst 1, 1) := by decide +kernel
theorem dX3_fillSets_34 : decode cX3_fillSets 34 = .ok (.isub, 1) := by decide +kernel
theorem dX3_fillSets_35 : decode cX3_fillSets 35 = .ok (.iand, 1) := by decide +kernel
theorem dX3_fillSets_36 : decode cX3_fillSets 36 = .ok (.istore 4, 2) := by decide +kernel
theorem dX3_fillSets_38 : decode cX3_fillSets 38 = .ok (.aload_n 0, 1) := by decide +kernel
theorem dX3_fillSets_39 : decode cX3_fillSets 39 = .ok (.getfield 9, 3) := by decide +kernel
theorem dX3_fillSets_42 : decode cX3_fillSets 42 = .ok (.iload_n 2, 1) := by decide +kernel
theorem dX3_fillSets_43 : decode cX3_fillSets 43 = .ok (.aload_n 0, 1) := by decide +kernel
theorem dX3_fillSets_44 : decode cX3_fillSets 44 = .ok (.getfield 9, 3) := by decide +kernel
theorem dX3_fillSets_47 : decode cX3_fillSets 47 = .ok (.iload 4, 2) := by decide +kernel
theorem dX3_fillSets_49 : decode cX3_fillSets 49 = .ok (.iaload, 1) := by decide +kernel
theorem dX3_fillSets_50 : decode cX3_fillSets 50 = .ok (.aload_n 0, 1) := by decide +kernel
theorem dX3_fillSets_51 : decode cX3_fillSets 51 = .ok (.getfield 60, 3) := by decide +kernel
theorem dX3_fillSets_54 : decode cX3_fillSets 54 = .ok (.getfield 94, 3) := by decide +kernel
theorem dX3_fillSets_57 : decode cX3_fillSets 57 = .ok (.iload_n 3, 1) := by decide +kernel
theorem dX3_fillSets_58 : decode cX3_fillSets 58 = .ok (.iaload, 1) := by decide +kernel
theorem dX3_fillSets_59 : decode cX3_fillSets 59 = .ok (.ior, 1) := by decide +kernel
theorem dX3_fillSets_60 : decode cX3_fillSets 60 = .ok (.iastore, 1) := by decide +kernel
theorem dX3_fillSets_61 : decode cX3_fillSets 61 = .ok (.aload_n 0, 1) := by decide +kernel
theorem dX3_fillSets_62 : decode cX3_fillSets 62 = .ok (.getfield 15, 3) := by decide +kernel
theorem dX3_fillSets_65 : decode cX3_fillSets 65 = .ok (.iload_n 2, 1) := by decide +kernel
theorem dX3_fillSets_66 : decode cX3_fillSets 66 = .ok (.aload_n 0, 1) := by decide +kernel
theorem dX3_fillSets_67 : decode cX3_fillSets 67 = .ok (.getfield 15, 3) := by decide +kernel
theorem dX3_fillSets_70 : decode cX3_fillSets 70 = .ok (.iload 4, 2) := by decide +kernel
theorem dX3_fillSets_72 : decode cX3_fillSets 72 = .ok (.iaload, 1) := by decide +kernel
theorem dX3_fillSets_73 : decode cX3_fillSets 73 = .ok (.aload_n 0, 1) := by decide +kernel
theorem dX3_fillSets_74 : decode cX3_fillSets 74 = .ok (.getfield 60, 3) := by decide +kernel
theorem dX3_fillSets_77 : decode cX3_fillSets 77 = .ok (.getfield 97, 3) := by decide +kernel
theorem dX3_fillSets_80 : decode cX3_fillSets 80 = .ok (.iload_n 3, 1) := by decide +kernel
theorem dX3_fillSets_81 : decode cX3_fillSets 81 = .ok (.iaload, 1) := by decide +kernel
theorem dX3_fillSets_82 : decode cX3_fillSets 82 = .ok (.invokestatic 100, 3) := by decide +kernel
theorem dX3_fillSets_85 : decode cX3_fillSets 85 = .ok (.iastore, 1) := by decide +kernel
theorem dX3_fillSets_86 : decode cX3_fillSets 86 = .ok (.iinc 2 1, 3) := by decide +kernel
theorem dX3_fillSets_89 : decode cX3_fillSets 89 = .ok (.goto (-68), 3) := by decide +kernel
theorem dX3_fillSets_92 : decode cX3_fillSets 92 = .ok (.return_, 1) := by decide +kernel
theorem dX3_fillSteps_0 : decode cX3_fillSteps 0 = .ok (.aload_n 0, 1) := by decide +kernel
theorem dX3_fillSteps_1 : decode cX3_fillSteps 1 = .ok (.invokevirtual 84, 3) := by decide +kernel
theorem dX3_fillSteps_4 : decode cX3_fillSteps 4 = .ok (.istore_n 1, 1) := by decide +kernel
theorem dX3_fillSteps_5 : decode cX3_fillSteps 5 = .ok (.iconst 0, 1) := by decide +kernel
theorem dX3_fillSteps_6 : decode cX3_fillSteps 6 = .ok (.istore_n 2, 1) := by decide +kernel
theorem dX3_fillSteps_7 : decode cX3_fillSteps 7 = .ok (.iload_n 2, 1) := by decide +kernel
theorem dX3_fillSteps_8 : decode cX3_fillSteps 8 = .ok (.iload_n 1, 1) := by decide +kernel
theorem dX3_fillSteps_9 : decode cX3_fillSteps 9 = .ok (.if_icmp .gt 58, 3) := by decide +kernel
theorem dX3_fillSteps_12 : decode cX3_fillSteps 12 = .ok (.iconst 0, 1) := by decide +kernel
theorem dX3_fillSteps_13 : decode cX3_fillSteps 13 = .ok (.istore_n 3, 1) := by decide +kernel
theorem dX3_fillSteps_14 : decode cX3_fillSteps 14 = .ok (.iload_n 3, 1) := by decide +kernel
theorem dX3_fillSteps_15 : decode cX3_fillSteps 15 = .ok (.aload_n 0, 1) := by decide +kernel
theorem dX3_fillSteps_16 : decode cX3_fillSteps 16 = .ok (.getfield 60, 3) := by decide +kernel
theorem dX3_fillSteps_19 : decode cX3_fillSteps 19 = .ok (.getfield 79, 3) := by decide +kernel
theorem dX3_fillSteps_22 : decode cX3_fillSteps 22 = .ok (.if_icmp .ge 39, 3) := by decide +kernel
theorem dX3_fillSteps_25 : decode cX3_fillSteps 25 = .ok (.aload_n 0, 1) := by decide +kernel
theorem dX3_fillSteps_26 : decode cX3_fillSteps 26 = .ok (.getfield 18, 3) := by decide +kernel
theorem dX3_fillSteps_29 : decode cX3_fillSteps 29 = .ok (.iload_n 2, 1) := by decide +kernel
theorem dX3_fillSteps_30 : decode cX3_fillSteps 30 = .ok (.bipush 8, 2) := by decide +kernel
theorem dX3_fillSteps_32 : decode cX3_fillSteps 32 = .ok (.imul, 1) := by decide +kernel
theorem dX3_fillSteps_33 : decode cX3_fillSteps 33 = .ok (.iload_n 3, 1) := by decide +kernel
theorem dX3_fillSteps_34 : decode cX3_fillSteps 34 = .ok (.iadd, 1) := by decide +kernel
theorem dX3_fillSteps_35 : decode cX3_fillSteps 35 = .ok (.aload_n 0, 1) := by decide +kernel
theorem dX3_fillSteps_36 : decode cX3_fillSteps 36 = .ok (.iload_n 2, 1) := by decide +kernel
theorem dX3_fillSteps_37 : decode cX3_fillSteps 37 = .ok (.iload_n 3, 1) := by decide +kernel
theorem dX3_fillSteps_38 : decode cX3_fillSteps 38 = .ok (.invokevirtual 106, 3) := by decide +kernel
theorem dX3_fillSteps_41 : decode cX3_fillSteps 41 = .ok (.ifCond .eq 12, 3) := by decide +kernel
theorem dX3_fillSteps_44 : decode cX3_fillSteps 44 = .ok (.aload_n 0, 1) := by decide +kernel
theorem dX3_fillSteps_45 : decode cX3_fillSteps 45 = .ok (.iload_n 2, 1) := by decide +kernel
theorem dX3_fillSteps_46 : decode cX3_fillSteps 46 = .ok (.iload_n 3, 1) := by decide +kernel
theorem dX3_fillSteps_47 : decode cX3_fillSteps 47 = .ok (.invokevirtual 110, 3) := by decide +kernel
theorem dX3_fillSteps_50 : decode cX3_fillSteps 50 = .ok (.goto 4, 3) := by decide +kernel
theorem dX3_fillSteps_53 : decode cX3_fillSteps 53 = .ok (.iconst (-1), 1) := by decide +kernel
theorem dX3_fillSteps_54 : decode cX3_fillSteps 54 = .ok (.iastore, 1) := by decide +kernel
theorem dX3_fillSteps_55 : decode cX3_fillSteps 55 = .ok (.iinc 3 1, 3) := by decide +kernel
theorem dX3_fillSteps_58 : decode cX3_fillSteps 58 = .ok (.goto (-44), 3) := by decide +kernel
theorem dX3_fillSteps_61 : decode cX3_fillSteps 61 = .ok (.iinc 2 1, 3) := by decide +kernel
theorem dX3_fillSteps_64 : decode cX3_fillSteps 64 = .ok (.goto (-57), 3) := by decide +kernel
theorem dX3_fillSteps_67 : decode cX3_fillSteps 67 = .ok (.return_, 1) := by decide +kernel
theorem dX3_canFollow_0 : decode cX3_canFollow 0 = .ok (.iload_n 1, 1) := by decide +kernel
theorem dX3_canFollow_1 : decode cX3_canFollow 1 = .ok (.iload_n 2, 1) := by decide +kernel
theorem dX3_canFollow_2 : decode cX3_canFollow 2 = .ok (.ishr, 1) := by decide +kernel
theorem dX3_canFollow_3 : decode cX3_canFollow 3 = .ok (.iconst 1, 1) := by decide +kernel
theorem dX3_canFollow_4 : decode cX3_canFollow 4 = .ok (.iand, 1) := by decide +kernel
theorem dX3_canFollow_5 : decode cX3_canFollow 5 = .ok (.ifCond .ne 45, 3) := by decide +kernel
theorem dX3_canFollow_8 : decode cX3_canFollow 8 = .ok (.aload_n 0, 1) := by decide +kernel
theorem dX3_canFollow_9 : decode cX3_canFollow 9 = .ok (.getfield 60, 3) := by decide +kernel
theorem dX3_canFollow_12 : decode cX3_canFollow 12 = .ok (.getfield 113, 3) := by decide +kernel
theorem dX3_canFollow_15 : decode cX3_canFollow 15 = .ok (.iload_n 2, 1) := by decide +kernel
theorem dX3_canFollow_16 : decode cX3_canFollow 16 = .ok (.iaload, 1) := by decide +kernel
theorem dX3_canFollow_17 : decode cX3_canFollow 17 = .ok (.iload_n 1, 1) := by decide +kernel
theorem dX3_canFollow_18 : decode cX3_canFollow 18 = .ok (.iconst (-1), 1) := by decide +kernel
theorem dX3_canFollow_19 : decode cX3_canFollow 19 = .ok (.ixor, 1) := by decide +kernel
theorem dX3_canFollow_20 : decode cX3_canFollow 20 = .ok (.iand, 1) := by decide +kernel
theorem dX3_canFollow_21 : decode cX3_canFollow 21 = .ok (.ifCond .ne 29, 3) := by decide +kernel
theorem dX3_canFollow_24 : decode cX3_canFollow 24 = .ok (.aload_n 0, 1) := by decide +kernel
theorem dX3_canFollow_25 : decode cX3_canFollow 25 = .ok (.getfield 15, 3) := by decide +kernel
theorem dX3_canFollow_28 : decode cX3_canFollow 28 = .ok (.iload_n 1, 1) := by decide +kernel
theorem dX3_canFollow_29 : decode cX3_canFollow 29 = .ok (.iconst 1, 1) := by decide +kernel
theorem dX3_canFollow_30 : decode cX3_canFollow 30 = .ok (.iload_n 2, 1) := by decide +kernel
theorem dX3_canFollow_31 : decode cX3_canFollow 31 = .ok (.ishl, 1) := by decide +kernel
theorem dX3_canFollow_32 : decode cX3_canFollow 32 = .ok (.ior, 1) := by decide +kernel
theorem dX3_canFollow_33 : decode cX3_canFollow 33 = .ok (.iaload, 1) := by decide +kernel
theorem dX3_canFollow_34 : decode cX3_canFollow 34 = .ok (.aload_n 0, 1) := by decide +kernel
theorem dX3_canFollow_35 : decode cX3_canFollow 35 = .ok (.getfield 60, 3) := by decide +kernel
theorem dX3_canFollow_38 : decode cX3_canFollow 38 = .ok (.getfield 116, 3) := by decide +kernel
theorem dX3_canFollow_41 : decode cX3_canFollow 41 = .ok (.iload_n 2, 1) := by decide +kernel
theorem dX3_canFollow_42 : decode cX3_canFollow 42 = .ok (.iaload, 1) := by decide +kernel
theorem dX3_canFollow_43 : decode cX3_canFollow 43 = .ok (.if_icmp .gt 7, 3) := by decide +kernel
theorem dX3_canFollow_46 : decode cX3_canFollow 46 = .ok (.iconst 1, 1) := by decide +kernel
theorem dX3_canFollow_47 : decode cX3_canFollow 47 = .ok (.goto 4, 3) := by decide +kernel
theorem dX3_canFollow_50 : decode cX3_canFollow 50 = .ok (.iconst 0, 1) := by decide +kernel
theorem dX3_canFollow_51 : decode cX3_canFollow 51 = .ok (.ireturn, 1) := by decide +kernel
theorem dX3_gapsAt_0 : decode cX3_gapsAt 0 = .ok (.aload_n 0, 1) := by decide +kernel
theorem dX3_gapsAt_1 : decode cX3_gapsAt 1 = .ok (.getfield 60, 3) := by decide +kernel
theorem dX3_gapsAt_4 : decode cX3_gapsAt 4 = .ok (.getfield 119, 3) := by decide +kernel
theorem dX3_gapsAt_7 : decode cX3_gapsAt 7 = .ok (.iload_n 2, 1) := by decide +kernel
theorem dX3_gapsAt_8 : decode cX3_gapsAt 8 = .ok (.ishr, 1) := by decide +kernel
theorem dX3_gapsAt_9 : decode cX3_gapsAt 9 = .ok (.iconst 1, 1) := by decide +kernel
theorem dX3_gapsAt_10 : decode cX3_gapsAt 10 = .ok (.iand, 1) := by decide +kernel
theorem dX3_gapsAt_11 : decode cX3_gapsAt 11 = .ok (.ifCond .eq 5, 3) := by decide +kernel
theorem dX3_gapsAt_14 : decode cX3_gapsAt 14 = .ok (.iconst 0, 1) := by decide +kernel
theorem dX3_gapsAt_15 : decode cX3_gapsAt 15 = .ok (.ireturn, 1) := by decide +kernel
theorem dX3_gapsAt_16 : decode cX3_gapsAt 16 = .ok (.aload_n 0, 1) := by decide +kernel
theorem dX3_gapsAt_17 : decode cX3_gapsAt 17 = .ok (.invokevirtual 84, 3) := by decide +kernel
theorem dX3_gapsAt_20 : decode cX3_gapsAt 20 = .ok (.iload_n 1, 1) := by decide +kernel
theorem dX3_gapsAt_21 : decode cX3_gapsAt 21 = .ok (.iconst (-1), 1) := by decide +kernel
theorem dX3_gapsAt_22 : decode cX3_gapsAt 22 = .ok (.ixor, 1) := by decide +kernel
theorem dX3_gapsAt_23 : decode cX3_gapsAt 23 = .ok (.iand, 1) := by decide +kernel
theorem dX3_gapsAt_24 : decode cX3_gapsAt 24 = .ok (.iconst 1, 1) := by decide +kernel
theorem dX3_gapsAt_25 : decode cX3_gapsAt 25 = .ok (.iload_n 2, 1) := by decide +kernel
theorem dX3_gapsAt_26 : decode cX3_gapsAt 26 = .ok (.ishl, 1) := by decide +kernel
theorem dX3_gapsAt_27 : decode cX3_gapsAt 27 = .ok (.iconst (-1), 1) := by decide +kernel
theorem dX3_gapsAt_28 : decode cX3_gapsAt 28 = .ok (.ixor, 1) := by decide +kernel
theorem dX3_gapsAt_29 : decode cX3_gapsAt 29 = .ok (.iand, 1) := by decide +kernel
theorem dX3_gapsAt_30 : decode cX3_gapsAt 30 = .ok (.istore_n 3, 1) := by decide +kernel
theorem dX3_gapsAt_31 : decode cX3_gapsAt 31 = .ok (.aload_n 0, 1) := by decide +kernel
theorem dX3_gapsAt_32 : decode cX3_gapsAt 32 = .ok (.getfield 60, 3) := by decide +kernel
theorem dX3_gapsAt_35 : decode cX3_gapsAt 35 = .ok (.getfield 122, 3) := by decide +kernel
theorem dX3_gapsAt_38 : decode cX3_gapsAt 38 = .ok (.aload_n 0, 1) := by decide +kernel
theorem dX3_gapsAt_39 : decode cX3_gapsAt 39 = .ok (.getfield 60, 3) := by decide +kernel
theorem dX3_gapsAt_42 : decode cX3_gapsAt 42 = .ok (.getfield 125, 3) := by decide +kernel
theorem dX3_gapsAt_45 : decode cX3_gapsAt 45 = .ok (.ior, 1) := by decide +kernel
theorem dX3_gapsAt_46 : decode cX3_gapsAt 46 = .ok (.istore 4, 2) := by decide +kernel
theorem dX3_gapsAt_48 : decode cX3_gapsAt 48 = .ok (.aload_n 0, 1) := by decide +kernel
theorem dX3_gapsAt_49 : decode cX3_gapsAt 49 = .ok (.getfield 9, 3) := by decide +kernel
theorem dX3_gapsAt_52 : decode cX3_gapsAt 52 = .ok (.iload_n 1, 1) := by decide +kernel
theorem dX3_gapsAt_53 : decode cX3_gapsAt 53 = .ok (.iaload, 1) := by decide +kernel
theorem dX3_gapsAt_54 : decode cX3_gapsAt 54 = .ok (.aload_n 0, 1) := by decide +kernel
theorem dX3_gapsAt_55 : decode cX3_gapsAt 55 = .ok (.getfield 9, 3) := by decide +kernel
theorem dX3_gapsAt_58 : decode cX3_gapsAt 58 = .ok (.iload_n 3, 1) := by decide +kernel
theorem dX3_gapsAt_59 : decode cX3_gapsAt 59 = .ok (.iaload, 1) := by decide +kernel
theorem dX3_gapsAt_60 : decode cX3_gapsAt 60 = .ok (.iand, 1) := by decide +kernel
theorem dX3_gapsAt_61 : decode cX3_gapsAt 61 = .ok (.aload_n 0, 1) := by decide +kernel
theorem dX3_gapsAt_62 : decode cX3_gapsAt 62 = .ok (.getfield 60, 3) := by decide +kernel
theorem dX3_gapsAt_65 : decode cX3_gapsAt 65 = .ok (.getfield 94, 3) := by decide +kernel
theorem dX3_gapsAt_68 : decode cX3_gapsAt 68 = .ok (.iload_n 2, 1) := by decide +kernel
theorem dX3_gapsAt_69 : decode cX3_gapsAt 69 = .ok (.iaload, 1) := by decide +kernel
theorem dX3_gapsAt_70 : decode cX3_gapsAt 70 = .ok (.iconst (-1), 1) := by decide +kernel
theorem dX3_gapsAt_71 : decode cX3_gapsAt 71 = .ok (.ixor, 1) := by decide +kernel
theorem dX3_gapsAt_72 : decode cX3_gapsAt 72 = .ok (.iand, 1) := by decide +kernel
theorem dX3_gapsAt_73 : decode cX3_gapsAt 73 = .ok (.iload 4, 2) := by decide +kernel
theorem dX3_gapsAt_75 : decode cX3_gapsAt 75 = .ok (.iand, 1) := by decide +kernel
theorem dX3_gapsAt_76 : decode cX3_gapsAt 76 = .ok (.ireturn, 1) := by decide +kernel
theorem dX3_fillAhead_0 : decode cX3_fillAhead 0 = .ok (.aload_n 0, 1) := by decide +kernel
theorem dX3_fillAhead_1 : decode cX3_fillAhead 1 = .ok (.invokevirtual 84, 3) := by decide +kernel
theorem dX3_fillAhead_4 : decode cX3_fillAhead 4 = .ok (.istore_n 1, 1) := by decide +kernel
theorem dX3_fillAhead_5 : decode cX3_fillAhead 5 = .ok (.iconst 0, 1) := by decide +kernel
theorem dX3_fillAhead_6 : decode cX3_fillAhead 6 = .ok (.istore_n 2, 1) := by decide +kernel
theorem dX3_fillAhead_7 : decode cX3_fillAhead 7 = .ok (.iload_n 2, 1) := by decide +kernel
theorem dX3_fillAhead_8 : decode cX3_fillAhead 8 = .ok (.iload_n 1, 1) := by decide +kernel
theorem dX3_fillAhead_9 : decode cX3_fillAhead 9 = .ok (.if_icmp .gt 25, 3) := by decide +kernel
theorem dX3_fillAhead_12 : decode cX3_fillAhead 12 = .ok (.aload_n 0, 1) := by decide +kernel
theorem dX3_fillAhead_13 : decode cX3_fillAhead 13 = .ok (.getfield 21, 3) := by decide +kernel
theorem dX3_fillAhead_16 : decode cX3_fillAhead 16 = .ok (.iload_n 2, 1) := by decide +kernel
theorem dX3_fillAhead_17 : decode cX3_fillAhead 17 = .ok (.iload_n 2, 1) := by decide +kernel
theorem dX3_fillAhead_18 : decode cX3_fillAhead 18 = .ok (.ifCond .ne 7, 3) := by decide +kernel
theorem dX3_fillAhead_21 : decode cX3_fillAhead 21 = .ok (.iconst 0, 1) := by decide +kernel
theorem dX3_fillAhead_22 : decode cX3_fillAhead 22 = .ok (.goto 5, 3) := by decide +kernel
theorem dX3_fillAhead_25 : decode cX3_fillAhead 25 = .ok (.ldc 128, 2) := by decide +kernel
theorem dX3_fillAhead_27 : decode cX3_fillAhead 27 = .ok (.iastore, 1) := by decide +kernel
theorem dX3_fillAhead_28 : decode cX3_fillAhead 28 = .ok (.iinc 2 1, 3) := by decide +kernel
theorem dX3_fillAhead_31 : decode cX3_fillAhead 31 = .ok (.goto (-24), 3) := by decide +kernel
theorem dX3_fillAhead_34 : decode cX3_fillAhead 34 = .ok (.iconst 0, 1) := by decide +kernel
theorem dX3_fillAhead_35 : decode cX3_fillAhead 35 = .ok (.istore_n 2, 1) := by decide +kernel
theorem dX3_fillAhead_36 : decode cX3_fillAhead 36 = .ok (.iload_n 2, 1) := by decide +kernel
theorem dX3_fillAhead_37 : decode cX3_fillAhead 37 = .ok (.iload_n 1, 1) := by decide +kernel
theorem dX3_fillAhead_38 : decode cX3_fillAhead 38 = .ok (.if_icmp .ge 87, 3) := by decide +kernel
theorem dX3_fillAhead_41 : decode cX3_fillAhead 41 = .ok (.iconst 0, 1) := by decide +kernel
theorem dX3_fillAhead_42 : decode cX3_fillAhead 42 = .ok (.istore_n 3, 1) := by decide +kernel
theorem dX3_fillAhead_43 : decode cX3_fillAhead 43 = .ok (.iload_n 3, 1) := by decide +kernel
theorem dX3_fillAhead_44 : decode cX3_fillAhead 44 = .ok (.aload_n 0, 1) := by decide +kernel
theorem dX3_fillAhead_45 : decode cX3_fillAhead 45 = .ok (.getfield 60, 3) := by decide +kernel
theorem dX3_fillAhead_48 : decode cX3_fillAhead 48 = .ok (.getfield 79, 3) := by decide +kernel
theorem dX3_fillAhead_51 : decode cX3_fillAhead 51 = .ok (.if_icmp .ge 68, 3) := by decide +kernel
theorem dX3_fillAhead_54 : decode cX3_fillAhead 54 = .ok (.aload_n 0, 1) := by decide +kernel
theorem dX3_fillAhead_55 : decode cX3_fillAhead 55 = .ok (.getfield 18, 3) := by decide +kernel
theorem dX3_fillAhead_58 : decode cX3_fillAhead 58 = .ok (.iload_n 2, 1) := by decide +kernel
theorem dX3_fillAhead_59 : decode cX3_fillAhead 59 = .ok (.bipush 8, 2) := by decide +kernel
theorem dX3_fillAhead_61 : decode cX3_fillAhead 61 = .ok (.imul, 1) := by decide +kernel
theorem dX3_fillAhead_62 : decode cX3_fillAhead 62 = .ok (.iload_n 3, 1) := by decide +kernel
theorem dX3_fillAhead_63 : decode cX3_fillAhead 63 = .ok (.iadd, 1) := by decide +kernel
theorem dX3_fillAhead_64 : decode cX3_fillAhead 64 = .ok (.iaload, 1) := by decide +kernel
theorem dX3_fillAhead_65 : decode cX3_fillAhead 65 = .ok (.istore 4, 2) := by decide +kernel
theorem dX3_fillAhead_67 : decode cX3_fillAhead 67 = .ok (.iload 4, 2) := by decide +kernel
theorem dX3_fillAhead_69 : decode cX3_fillAhead 69 = .ok (.iconst (-1), 1) := by decide +kernel
theorem dX3_fillAhead_70 : decode cX3_fillAhead 70 = .ok (.if_icmp .eq 43, 3) := by decide +kernel
theorem dX3_fillAhead_73 : decode cX3_fillAhead 73 = .ok (.iload_n 2, 1) := by decide +kernel
theorem dX3_fillAhead_74 : decode cX3_fillAhead 74 = .ok (.iconst 1, 1) := by decide +kernel
theorem dX3_fillAhead_75 : decode cX3_fillAhead 75 = .ok (.iload_n 3, 1) := by decide +kernel
theorem dX3_fillAhead_76 : decode cX3_fillAhead 76 = .ok (.ishl, 1) := by decide +kernel
theorem dX3_fillAhead_77 : decode cX3_fillAhead 77 = .ok (.ior, 1) := by decide +kernel
theorem dX3_fillAhead_78 : decode cX3_fillAhead 78 = .ok (.istore 5, 2) := by decide +kernel
theorem dX3_fillAhead_80 : decode cX3_fillAhead 80 = .ok (.aload_n 0, 1) := by decide +kernel
theorem dX3_fillAhead_81 : decode cX3_fillAhead 81 = .ok (.getfield 21, 3) := by decide +kernel
theorem dX3_fillAhead_84 : decode cX3_fillAhead 84 = .ok (.iload 5, 2) := by decide +kernel
theorem dX3_fillAhead_86 : decode cX3_fillAhead 86 = .ok (.aload_n 0, 1) := by decide +kernel
theorem dX3_fillAhead_87 : decode cX3_fillAhead 87 = .ok (.getfield 21, 3) := by decide +kernel
theorem dX3_fillAhead_90 : decode cX3_fillAhead 90 = .ok (.iload 5, 2) := by decide +kernel
theorem dX3_fillAhead_92 : decode cX3_fillAhead 92 = .ok (.iaload, 1) := by decide +kernel
theorem dX3_fillAhead_93 : decode cX3_fillAhead 93 = .ok (.aload_n 0, 1) := by decide +kernel
theorem dX3_fillAhead_94 : decode cX3_fillAhead 94 = .ok (.getfield 21, 3) := by decide +kernel
theorem dX3_fillAhead_97 : decode cX3_fillAhead 97 = .ok (.iload_n 2, 1) := by decide +kernel
theorem dX3_fillAhead_98 : decode cX3_fillAhead 98 = .ok (.iaload, 1) := by decide +kernel
theorem dX3_fillAhead_99 : decode cX3_fillAhead 99 = .ok (.aload_n 0, 1) := by decide +kernel
theorem dX3_fillAhead_100 : decode cX3_fillAhead 100 = .ok (.getfield 60, 3) := by decide +kernel
theorem dX3_fillAhead_103 : decode cX3_fillAhead 103 = .ok (.iload 4, 2) := by decide +kernel
theorem dX3_fillAhead_105 : decode cX3_fillAhead 105 = .ok (.invokevirtual 129, 3) := by decide +kernel
theorem dX3_fillAhead_108 : decode cX3_fillAhead 108 = .ok (.iadd, 1) := by decide +kernel
theorem dX3_fillAhead_109 : decode cX3_fillAhead 109 = .ok (.invokestatic 132, 3) := by decide +kernel
theorem dX3_fillAhead_112 : decode cX3_fillAhead 112 = .ok (.iastore, 1) := by decide +kernel
theorem dX3_fillAhead_113 : decode cX3_fillAhead 113 = .ok (.iinc 3 1, 3) := by decide +kernel
theorem dX3_fillAhead_116 : decode cX3_fillAhead 116 = .ok (.goto (-73), 3) := by decide +kernel
theorem dX3_fillAhead_119 : decode cX3_fillAhead 119 = .ok (.iinc 2 1, 3) := by decide +kernel
theorem dX3_fillAhead_122 : decode cX3_fillAhead 122 = .ok (.goto (-86), 3) := by decide +kernel
theorem dX3_fillAhead_125 : decode cX3_fillAhead 125 = .ok (.return_, 1) := by decide +kernel
theorem dX3_fillBehind_0 : decode cX3_fillBehind 0 = .ok (.aload_n 0, 1) := by decide +kernel
theorem dX3_fillBehind_1 : decode cX3_fillBehind 1 = .ok (.invokevirtual 84, 3) := by decide +kernel
theorem dX3_fillBehind_4 : decode cX3_fillBehind 4 = .ok (.istore_n 1, 1) := by decide +kernel
theorem dX3_fillBehind_5 : decode cX3_fillBehind 5 = .ok (.aload_n 0, 1) := by decide +kernel
theorem dX3_fillBehind_6 : decode cX3_fillBehind 6 = .ok (.getfield 24, 3) := by decide +kernel
theorem dX3_fillBehind_9 : decode cX3_fillBehind 9 = .ok (.iload_n 1, 1) := by decide +kernel
theorem dX3_fillBehind_10 : decode cX3_fillBehind 10 = .ok (.iconst 0, 1) := by decide +kernel
theorem dX3_fillBehind_11 : decode cX3_fillBehind 11 = .ok (.iastore, 1) := by decide +kernel
theorem dX3_fillBehind_12 : decode cX3_fillBehind 12 = .ok (.aload_n 0, 1) := by decide +kernel
theorem dX3_fillBehind_13 : decode cX3_fillBehind 13 = .ok (.getfield 27, 3) := by decide +kernel
theorem dX3_fillBehind_16 : decode cX3_fillBehind 16 = .ok (.iload_n 1, 1) := by decide +kernel
theorem dX3_fillBehind_17 : decode cX3_fillBehind 17 = .ok (.iconst 1, 1) := by decide +kernel
theorem dX3_fillBehind_18 : decode cX3_fillBehind 18 = .ok (.iastore, 1) := by decide +kernel
theorem dX3_fillBehind_19 : decode cX3_fillBehind 19 = .ok (.iload_n 1, 1) := by decide +kernel
theorem dX3_fillBehind_20 : decode cX3_fillBehind 20 = .ok (.iconst 1, 1) := by decide +kernel
theorem dX3_fillBehind_21 : decode cX3_fillBehind 21 = .ok (.isub, 1) := by decide +kernel
theorem dX3_fillBehind_22 : decode cX3_fillBehind 22 = .ok (.istore_n 2, 1) := by decide +kernel
theorem dX3_fillBehind_23 : decode cX3_fillBehind 23 = .ok (.iload_n 2, 1) := by decide +kernel
theorem dX3_fillBehind_24 : decode cX3_fillBehind 24 = .ok (.ifCond .lt 49, 3) := by decide +kernel
theorem dX3_fillBehind_27 : decode cX3_fillBehind 27 = .ok (.aload_n 0, 1) := by decide +kernel
theorem dX3_fillBehind_28 : decode cX3_fillBehind 28 = .ok (.getfield 24, 3) := by decide +kernel
theorem dX3_fillBehind_31 : decode cX3_fillBehind 31 = .ok (.iload_n 2, 1) := by decide +kernel
theorem dX3_fillBehind_32 : decode cX3_fillBehind 32 = .ok (.ldc 128, 2) := by decide +kernel
theorem dX3_fillBehind_34 : decode cX3_fillBehind 34 = .ok (.iastore, 1) := by decide +kernel
theorem dX3_fillBehind_35 : decode cX3_fillBehind 35 = .ok (.aload_n 0, 1) := by decide +kernel
theorem dX3_fillBehind_36 : decode cX3_fillBehind 36 = .ok (.getfield 27, 3) := by decide +kernel
theorem dX3_fillBehind_39 : decode cX3_fillBehind 39 = .ok (.iload_n 2, 1) := by decide +kernel
theorem dX3_fillBehind_40 : decode cX3_fillBehind 40 = .ok (.iconst 0, 1) := by decide +kernel
theorem dX3_fillBehind_41 : decode cX3_fillBehind 41 = .ok (.iastore, 1) := by decide +kernel
theorem dX3_fillBehind_42 : decode cX3_fillBehind 42 = .ok (.iconst 0, 1) := by decide +kernel
theorem dX3_fillBehind_43 : decode cX3_fillBehind 43 = .ok (.istore_n 3, 1) := by decide +kernel
theorem dX3_fillBehind_44 : decode cX3_fillBehind 44 = .ok (.iload_n 3, 1) := by decide +kernel
theorem dX3_fillBehind_45 : decode cX3_fillBehind 45 = .ok (.aload_n 0, 1) := by decide +kernel
theorem dX3_fillBehind_46 : decode cX3_fillBehind 46 = .ok (.getfield 60, 3) := by decide +kernel
theorem dX3_fillBehind_49 : decode cX3_fillBehind 49 = .ok (.getfield 79, 3) := by decide +kernel
theorem dX3_fillBehind_52 : decode cX3_fillBehind 52 = .ok (.if_icmp .ge 15, 3) := by decide +kernel
theorem dX3_fillBehind_55 : decode cX3_fillBehind 55 = .ok (.aload_n 0, 1) := by decide +kernel
theorem dX3_fillBehind_56 : decode cX3_fillBehind 56 = .ok (.iload_n 2, 1) := by decide +kernel
theorem dX3_fillBehind_57 : decode cX3_fillBehind 57 = .ok (.iload_n 3, 1) := by decide +kernel
theorem dX3_fillBehind_58 : decode cX3_fillBehind 58 = .ok (.invokevirtual 135, 3) := by decide +kernel
theorem dX3_fillBehind_61 : decode cX3_fillBehind 61 = .ok (.iinc 3 1, 3) := by decide +kernel
theorem dX3_fillBehind_64 : decode cX3_fillBehind 64 = .ok (.goto (-20), 3) := by decide +kernel
theorem dX3_fillBehind_67 : decode cX3_fillBehind 67 = .ok (.iinc 2 (-1), 3) := by decide +kernel
theorem dX3_fillBehind_70 : decode cX3_fillBehind 70 = .ok (.goto (-47), 3) := by decide +kernel
theorem dX3_fillBehind_73 : decode cX3_fillBehind 73 = .ok (.return_, 1) := by decide +kernel
theorem dX3_tryNext_0 : decode cX3_tryNext 0 = .ok (.aload_n 0, 1) := by decide +kernel
theorem dX3_tryNext_1 : decode cX3_tryNext 1 = .ok (.getfield 18, 3) := by decide +kernel
theorem dX3_tryNext_4 : decode cX3_tryNext 4 = .ok (.iload_n 1, 1) := by decide +kernel
theorem dX3_tryNext_5 : decode cX3_tryNext 5 = .ok (.bipush 8, 2) := by decide +kernel
theorem dX3_tryNext_7 : decode cX3_tryNext 7 = .ok (.imul, 1) := by decide +kernel
theorem dX3_tryNext_8 : decode cX3_tryNext 8 = .ok (.iload_n 2, 1) := by decide +kernel
theorem dX3_tryNext_9 : decode cX3_tryNext 9 = .ok (.iadd, 1) := by decide +kernel
theorem dX3_tryNext_10 : decode cX3_tryNext 10 = .ok (.iaload, 1) := by decide +kernel
theorem dX3_tryNext_11 : decode cX3_tryNext 11 = .ok (.istore_n 3, 1) := by decide +kernel
theorem dX3_tryNext_12 : decode cX3_tryNext 12 = .ok (.iload_n 3, 1) := by decide +kernel
theorem dX3_tryNext_13 : decode cX3_tryNext 13 = .ok (.iconst (-1), 1) := by decide +kernel
theorem dX3_tryNext_14 : decode cX3_tryNext 14 = .ok (.if_icmp .ne 4, 3) := by decide +kernel
theorem dX3_tryNext_17 : decode cX3_tryNext 17 = .ok (.return_, 1) := by decide +kernel
theorem dX3_tryNext_18 : decode cX3_tryNext 18 = .ok (.iload_n 1, 1) := by decide +kernel
theorem dX3_tryNext_19 : decode cX3_tryNext 19 = .ok (.iconst 1, 1) := by decide +kernel
theorem dX3_tryNext_20 : decode cX3_tryNext 20 = .ok (.iload_n 2, 1) := by decide +kernel
theorem dX3_tryNext_21 : decode cX3_tryNext 21 = .ok (.ishl, 1) := by decide +kernel
theorem dX3_tryNext_22 : decode cX3_tryNext 22 = .ok (.ior, 1) := by decide +kernel
theorem dX3_tryNext_23 : decode cX3_tryNext 23 = .ok (.istore 4, 2) := by decide +kernel
theorem dX3_tryNext_25 : decode cX3_tryNext 25 = .ok (.aload_n 0, 1) := by decide +kernel
theorem dX3_tryNext_26 : decode cX3_tryNext 26 = .ok (.getfield 24, 3) := by decide +kernel
theorem dX3_tryNext_29 : decode cX3_tryNext 29 = .ok (.iload 4, 2) := by decide +kernel
theorem dX3_tryNext_31 : decode cX3_tryNext 31 = .ok (.iaload, 1) := by decide +kernel
theorem dX3_tryNext_32 : decode cX3_tryNext 32 = .ok (.aload_n 0, 1) := by decide +kernel
theorem dX3_tryNext_33 : decode cX3_tryNext 33 = .ok (.getfield 60, 3) := by decide +kernel
theorem dX3_tryNext_36 : decode cX3_tryNext 36 = .ok (.iload_n 3, 1) := by decide +kernel
theorem dX3_tryNext_37 : decode cX3_tryNext 37 = .ok (.invokevirtual 129, 3) := by decide +kernel
theorem dX3_tryNext_40 : decode cX3_tryNext 40 = .ok (.iadd, 1) := by decide +kernel
theorem dX3_tryNext_41 : decode cX3_tryNext 41 = .ok (.istore 5, 2) := by decide +kernel
theorem dX3_tryNext_43 : decode cX3_tryNext 43 = .ok (.aload_n 0, 1) := by decide +kernel
theorem dX3_tryNext_44 : decode cX3_tryNext 44 = .ok (.getfield 27, 3) := by decide +kernel
theorem dX3_tryNext_47 : decode cX3_tryNext 47 = .ok (.iload 4, 2) := by decide +kernel
theorem dX3_tryNext_49 : decode cX3_tryNext 49 = .ok (.iaload, 1) := by decide +kernel
theorem dX3_tryNext_50 : decode cX3_tryNext 50 = .ok (.ifCond .eq 14, 3) := by decide +kernel
theorem dX3_tryNext_53 : decode cX3_tryNext 53 = .ok (.iload 5, 2) := by decide +kernel
theorem dX3_tryNext_55 : decode cX3_tryNext 55 = .ok (.aload_n 0, 1) := by decide +kernel
theorem dX3_tryNext_56 : decode cX3_tryNext 56 = .ok (.getfield 24, 3) := by decide +kernel
theorem dX3_tryNext_59 : decode cX3_tryNext 59 = .ok (.iload_n 1, 1) := by decide +kernel
theorem dX3_tryNext_60 : decode cX3_tryNext 60 = .ok (.iaload, 1) := by decide +kernel
theorem dX3_tryNext_61 : decode cX3_tryNext 61 = .ok (.if_icmp .le 4, 3) := by decide +kernel
theorem dX3_tryNext_64 : decode cX3_tryNext 64 = .ok (.return_, 1) := by decide +kernel
theorem dX3_tryNext_65 : decode cX3_tryNext 65 = .ok (.aload_n 0, 1) := by decide +kernel
theorem dX3_tryNext_66 : decode cX3_tryNext 66 = .ok (.getfield 27, 3) := by decide +kernel
theorem dX3_tryNext_69 : decode cX3_tryNext 69 = .ok (.iload_n 1, 1) := by decide +kernel
theorem dX3_tryNext_70 : decode cX3_tryNext 70 = .ok (.iload 5, 2) := by decide +kernel
theorem dX3_tryNext_72 : decode cX3_tryNext 72 = .ok (.aload_n 0, 1) := by decide +kernel
theorem dX3_tryNext_73 : decode cX3_tryNext 73 = .ok (.getfield 24, 3) := by decide +kernel
theorem dX3_tryNext_76 : decode cX3_tryNext 76 = .ok (.iload_n 1, 1) := by decide +kernel
theorem dX3_tryNext_77 : decode cX3_tryNext 77 = .ok (.iaload, 1) := by decide +kernel
theorem dX3_tryNext_78 : decode cX3_tryNext 78 = .ok (.if_icmp .ge 13, 3) := by decide +kernel
theorem dX3_tryNext_81 : decode cX3_tryNext 81 = .ok (.aload_n 0, 1) := by decide +kernel
theorem dX3_tryNext_82 : decode cX3_tryNext 82 = .ok (.getfield 27, 3) := by decide +kernel
theorem dX3_tryNext_85 : decode cX3_tryNext 85 = .ok (.iload 4, 2) := by decide +kernel
theorem dX3_tryNext_87 : decode cX3_tryNext 87 = .ok (.iaload, 1) := by decide +kernel
theorem dX3_tryNext_88 : decode cX3_tryNext 88 = .ok (.goto 17, 3) := by decide +kernel
theorem dX3_tryNext_91 : decode cX3_tryNext 91 = .ok (.aload_n 0, 1) := by decide +kernel
theorem dX3_tryNext_92 : decode cX3_tryNext 92 = .ok (.getfield 27, 3) := by decide +kernel
theorem dX3_tryNext_95 : decode cX3_tryNext 95 = .ok (.iload_n 1, 1) := by decide +kernel
theorem dX3_tryNext_96 : decode cX3_tryNext 96 = .ok (.iaload, 1) := by decide +kernel
theorem dX3_tryNext_97 : decode cX3_tryNext 97 = .ok (.aload_n 0, 1) := by decide +kernel
theorem dX3_tryNext_98 : decode cX3_tryNext 98 = .ok (.getfield 27, 3) := by decide +kernel
theorem dX3_tryNext_101 : decode cX3_tryNext 101 = .ok (.iload 4, 2) := by decide +kernel
theorem dX3_tryNext_103 : decode cX3_tryNext 103 = .ok (.iaload, 1) := by decide +kernel
theorem dX3_tryNext_104 : decode cX3_tryNext 104 = .ok (.iadd, 1) := by decide +kernel
theorem dX3_tryNext_105 : decode cX3_tryNext 105 = .ok (.iastore, 1) := by decide +kernel
theorem dX3_tryNext_106 : decode cX3_tryNext 106 = .ok (.aload_n 0, 1) := by decide +kernel
theorem dX3_tryNext_107 : decode cX3_tryNext 107 = .ok (.getfield 24, 3) := by decide +kernel
theorem dX3_tryNext_110 : decode cX3_tryNext 110 = .ok (.iload_n 1, 1) := by decide +kernel
theorem dX3_tryNext_111 : decode cX3_tryNext 111 = .ok (.iload 5, 2) := by decide +kernel
theorem dX3_tryNext_113 : decode cX3_tryNext 113 = .ok (.iastore, 1) := by decide +kernel
theorem dX3_tryNext_114 : decode cX3_tryNext 114 = .ok (.return_, 1) := by decide +kernel
theorem dX3_fillRow_0 : decode cX3_fillRow 0 = .ok (.iconst 0, 1) := by decide +kernel
theorem dX3_fillRow_1 : decode cX3_fillRow 1 = .ok (.istore_n 1, 1) := by decide +kernel
theorem dX3_fillRow_2 : decode cX3_fillRow 2 = .ok (.iconst 0, 1) := by decide +kernel
theorem dX3_fillRow_3 : decode cX3_fillRow 3 = .ok (.istore_n 2, 1) := by decide +kernel
theorem dX3_fillRow_4 : decode cX3_fillRow 4 = .ok (.iload_n 2, 1) := by decide +kernel
theorem dX3_fillRow_5 : decode cX3_fillRow 5 = .ok (.aload_n 0, 1) := by decide +kernel
theorem dX3_fillRow_6 : decode cX3_fillRow 6 = .ok (.getfield 60, 3) := by decide +kernel
theorem dX3_fillRow_9 : decode cX3_fillRow 9 = .ok (.getfield 79, 3) := by decide +kernel
theorem dX3_fillRow_12 : decode cX3_fillRow 12 = .ok (.if_icmp .ge 37, 3) := by decide +kernel
theorem dX3_fillRow_15 : decode cX3_fillRow 15 = .ok (.aload_n 0, 1) := by decide +kernel
theorem dX3_fillRow_16 : decode cX3_fillRow 16 = .ok (.getfield 27, 3) := by decide +kernel
theorem dX3_fillRow_19 : decode cX3_fillRow 19 = .ok (.iload_n 1, 1) := by decide +kernel
theorem dX3_fillRow_20 : decode cX3_fillRow 20 = .ok (.iaload, 1) := by decide +kernel
theorem dX3_fillRow_21 : decode cX3_fillRow 21 = .ok (.ifCond .le 28, 3) := by decide +kernel
theorem dX3_fillRow_24 : decode cX3_fillRow 24 = .ok (.aload_n 0, 1) := by decide +kernel
theorem dX3_fillRow_25 : decode cX3_fillRow 25 = .ok (.iload_n 1, 1) := by decide +kernel
theorem dX3_fillRow_26 : decode cX3_fillRow 26 = .ok (.invokevirtual 139, 3) := by decide +kernel
theorem dX3_fillRow_29 : decode cX3_fillRow 29 = .ok (.istore_n 3, 1) := by decide +kernel
theorem dX3_fillRow_30 : decode cX3_fillRow 30 = .ok (.aload_n 0, 1) := by decide +kernel
theorem dX3_fillRow_31 : decode cX3_fillRow 31 = .ok (.getfield 30, 3) := by decide +kernel
theorem dX3_fillRow_34 : decode cX3_fillRow 34 = .ok (.iload_n 2, 1) := by decide +kernel
theorem dX3_fillRow_35 : decode cX3_fillRow 35 = .ok (.iload_n 3, 1) := by decide +kernel
theorem dX3_fillRow_36 : decode cX3_fillRow 36 = .ok (.iastore, 1) := by decide +kernel
theorem dX3_fillRow_37 : decode cX3_fillRow 37 = .ok (.iload_n 1, 1) := by decide +kernel
theorem dX3_fillRow_38 : decode cX3_fillRow 38 = .ok (.iconst 1, 1) := by decide +kernel
theorem dX3_fillRow_39 : decode cX3_fillRow 39 = .ok (.iload_n 3, 1) := by decide +kernel
theorem dX3_fillRow_40 : decode cX3_fillRow 40 = .ok (.ishl, 1) := by decide +kernel
theorem dX3_fillRow_41 : decode cX3_fillRow 41 = .ok (.ior, 1) := by decide +kernel
theorem dX3_fillRow_42 : decode cX3_fillRow 42 = .ok (.istore_n 1, 1) := by decide +kernel
theorem dX3_fillRow_43 : decode cX3_fillRow 43 = .ok (.iinc 2 1, 3) := by decide +kernel
theorem dX3_fillRow_46 : decode cX3_fillRow 46 = .ok (.goto (-42), 3) := by decide +kernel
theorem dX3_fillRow_49 : decode cX3_fillRow 49 = .ok (.return_, 1) := by decide +kernel
theorem dX3_leastNext_0 : decode cX3_leastNext 0 = .ok (.iconst 0, 1) := by decide +kernel
theorem dX3_leastNext_1 : decode cX3_leastNext 1 = .ok (.istore_n 2, 1) := by decide +kernel
theorem dX3_leastNext_2 : decode cX3_leastNext 2 = .ok (.iload_n 2, 1) := by decide +kernel
theorem dX3_leastNext_3 : decode cX3_leastNext 3 = .ok (.aload_n 0, 1) := by decide +kernel
theorem dX3_leastNext_4 : decode cX3_leastNext 4 = .ok (.getfield 60, 3) := by decide +kernel
theorem dX3_leastNext_7 : decode cX3_leastNext 7 = .ok (.getfield 79, 3) := by decide +kernel
theorem dX3_leastNext_10 : decode cX3_leastNext 10 = .ok (.if_icmp .ge 70, 3) := by decide +kernel
theorem dX3_leastNext_13 : decode cX3_leastNext 13 = .ok (.aload_n 0, 1) := by decide +kernel
theorem dX3_leastNext_14 : decode cX3_leastNext 14 = .ok (.getfield 18, 3) := by decide +kernel
theorem dX3_leastNext_17 : decode cX3_leastNext 17 = .ok (.iload_n 1, 1) := by decide +kernel
theorem dX3_leastNext_18 : decode cX3_leastNext 18 = .ok (.bipush 8, 2) := by decide +kernel
theorem dX3_leastNext_20 : decode cX3_leastNext 20 = .ok (.imul, 1) := by decide +kernel
theorem dX3_leastNext_21 : decode cX3_leastNext 21 = .ok (.iload_n 2, 1) := by decide +kernel
theorem dX3_leastNext_22 : decode cX3_leastNext 22 = .ok (.iadd, 1) := by decide +kernel
theorem dX3_leastNext_23 : decode cX3_leastNext 23 = .ok (.iaload, 1) := by decide +kernel
theorem dX3_leastNext_24 : decode cX3_leastNext 24 = .ok (.istore_n 3, 1) := by decide +kernel
theorem dX3_leastNext_25 : decode cX3_leastNext 25 = .ok (.iload_n 1, 1) := by decide +kernel
theorem dX3_leastNext_26 : decode cX3_leastNext 26 = .ok (.iconst 1, 1) := by decide +kernel
theorem dX3_leastNext_27 : decode cX3_leastNext 27 = .ok (.iload_n 2, 1) := by decide +kernel
theorem dX3_leastNext_28 : decode cX3_leastNext 28 = .ok (.ishl, 1) := by decide +kernel
theorem dX3_leastNext_29 : decode cX3_leastNext 29 = .ok (.ior, 1) := by decide +kernel
theorem dX3_leastNext_30 : decode cX3_leastNext 30 = .ok (.istore 4, 2) := by decide +kernel
theorem dX3_leastNext_32 : decode cX3_leastNext 32 = .ok (.iload_n 3, 1) := by decide +kernel
theorem dX3_leastNext_33 : decode cX3_leastNext 33 = .ok (.iconst (-1), 1) := by decide +kernel
theorem dX3_leastNext_34 : decode cX3_leastNext 34 = .ok (.if_icmp .eq 40, 3) := by decide +kernel
