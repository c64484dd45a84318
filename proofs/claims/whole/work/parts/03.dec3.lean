theorem dX7_faultNow_75 : decode cX7_faultNow 75 = .ok (.iadd, 1) := by decide +kernel
theorem dX7_faultNow_76 : decode cX7_faultNow 76 = .ok (.istore_n 1, 1) := by decide +kernel
theorem dX7_faultNow_77 : decode cX7_faultNow 77 = .ok (.aload_n 0, 1) := by decide +kernel
theorem dX7_faultNow_78 : decode cX7_faultNow 78 = .ok (.iload_n 1, 1) := by decide +kernel
theorem dX7_faultNow_79 : decode cX7_faultNow 79 = .ok (.invokevirtual 125, 3) := by decide +kernel
theorem dX7_faultNow_82 : decode cX7_faultNow 82 = .ok (.bipush 48, 2) := by decide +kernel
theorem dX7_faultNow_84 : decode cX7_faultNow 84 = .ok (.isub, 1) := by decide +kernel
theorem dX7_faultNow_85 : decode cX7_faultNow 85 = .ok (.istore 5, 2) := by decide +kernel
theorem dX7_faultNow_87 : decode cX7_faultNow 87 = .ok (.iload 5, 2) := by decide +kernel
theorem dX7_faultNow_89 : decode cX7_faultNow 89 = .ok (.invokestatic 113, 3) := by decide +kernel
theorem dX7_faultNow_92 : decode cX7_faultNow 92 = .ok (.ifCond .ne 5, 3) := by decide +kernel
theorem dX7_faultNow_95 : decode cX7_faultNow 95 = .ok (.iload_n 1, 1) := by decide +kernel
theorem dX7_faultNow_96 : decode cX7_faultNow 96 = .ok (.ireturn, 1) := by decide +kernel
theorem dX7_faultNow_97 : decode cX7_faultNow 97 = .ok (.iinc 1 1, 3) := by decide +kernel
theorem dX7_faultNow_100 : decode cX7_faultNow 100 = .ok (.aload_n 0, 1) := by decide +kernel
theorem dX7_faultNow_101 : decode cX7_faultNow 101 = .ok (.getfield 44, 3) := by decide +kernel
theorem dX7_faultNow_104 : decode cX7_faultNow 104 = .ok (.aload_n 0, 1) := by decide +kernel
theorem dX7_faultNow_105 : decode cX7_faultNow 105 = .ok (.getfield 122, 3) := by decide +kernel
theorem dX7_faultNow_108 : decode cX7_faultNow 108 = .ok (.iload_n 2, 1) := by decide +kernel
theorem dX7_faultNow_109 : decode cX7_faultNow 109 = .ok (.iastore, 1) := by decide +kernel
theorem dX7_faultNow_110 : decode cX7_faultNow 110 = .ok (.aload_n 0, 1) := by decide +kernel
theorem dX7_faultNow_111 : decode cX7_faultNow 111 = .ok (.getfield 47, 3) := by decide +kernel
theorem dX7_faultNow_114 : decode cX7_faultNow 114 = .ok (.aload_n 0, 1) := by decide +kernel
theorem dX7_faultNow_115 : decode cX7_faultNow 115 = .ok (.getfield 122, 3) := by decide +kernel
theorem dX7_faultNow_118 : decode cX7_faultNow 118 = .ok (.iload 5, 2) := by decide +kernel
theorem dX7_faultNow_120 : decode cX7_faultNow 120 = .ok (.iastore, 1) := by decide +kernel
theorem dX7_faultNow_121 : decode cX7_faultNow 121 = .ok (.aload_n 0, 1) := by decide +kernel
theorem dX7_faultNow_122 : decode cX7_faultNow 122 = .ok (.getfield 50, 3) := by decide +kernel
theorem dX7_faultNow_125 : decode cX7_faultNow 125 = .ok (.aload_n 0, 1) := by decide +kernel
theorem dX7_faultNow_126 : decode cX7_faultNow 126 = .ok (.getfield 122, 3) := by decide +kernel
theorem dX7_faultNow_129 : decode cX7_faultNow 129 = .ok (.iload 4, 2) := by decide +kernel
theorem dX7_faultNow_131 : decode cX7_faultNow 131 = .ok (.iastore, 1) := by decide +kernel
theorem dX7_faultNow_132 : decode cX7_faultNow 132 = .ok (.aload_n 0, 1) := by decide +kernel
theorem dX7_faultNow_133 : decode cX7_faultNow 133 = .ok (.dup, 1) := by decide +kernel
theorem dX7_faultNow_134 : decode cX7_faultNow 134 = .ok (.getfield 122, 3) := by decide +kernel
theorem dX7_faultNow_137 : decode cX7_faultNow 137 = .ok (.iconst 1, 1) := by decide +kernel
theorem dX7_faultNow_138 : decode cX7_faultNow 138 = .ok (.iadd, 1) := by decide +kernel
theorem dX7_faultNow_139 : decode cX7_faultNow 139 = .ok (.putfield 122, 3) := by decide +kernel
theorem dX7_faultNow_142 : decode cX7_faultNow 142 = .ok (.iload_n 1, 1) := by decide +kernel
theorem dX7_faultNow_143 : decode cX7_faultNow 143 = .ok (.aload_n 0, 1) := by decide +kernel
theorem dX7_faultNow_144 : decode cX7_faultNow 144 = .ok (.getfield 119, 3) := by decide +kernel
theorem dX7_faultNow_147 : decode cX7_faultNow 147 = .ok (.if_icmp .ne 5, 3) := by decide +kernel
theorem dX7_faultNow_150 : decode cX7_faultNow 150 = .ok (.iconst (-1), 1) := by decide +kernel
theorem dX7_faultNow_151 : decode cX7_faultNow 151 = .ok (.ireturn, 1) := by decide +kernel
theorem dX7_faultNow_152 : decode cX7_faultNow 152 = .ok (.aload_n 0, 1) := by decide +kernel
theorem dX7_faultNow_153 : decode cX7_faultNow 153 = .ok (.iload_n 1, 1) := by decide +kernel
theorem dX7_faultNow_154 : decode cX7_faultNow 154 = .ok (.invokevirtual 125, 3) := by decide +kernel
theorem dX7_faultNow_157 : decode cX7_faultNow 157 = .ok (.istore_n 3, 1) := by decide +kernel
theorem dX7_faultNow_158 : decode cX7_faultNow 158 = .ok (.iload_n 3, 1) := by decide +kernel
theorem dX7_faultNow_159 : decode cX7_faultNow 159 = .ok (.bipush 44, 2) := by decide +kernel
theorem dX7_faultNow_161 : decode cX7_faultNow 161 = .ok (.if_icmp .eq 11, 3) := by decide +kernel
theorem dX7_faultNow_164 : decode cX7_faultNow 164 = .ok (.iload_n 3, 1) := by decide +kernel
theorem dX7_faultNow_165 : decode cX7_faultNow 165 = .ok (.bipush 59, 2) := by decide +kernel
theorem dX7_faultNow_167 : decode cX7_faultNow 167 = .ok (.if_icmp .eq 5, 3) := by decide +kernel
theorem dX7_faultNow_170 : decode cX7_faultNow 170 = .ok (.iload_n 1, 1) := by decide +kernel
theorem dX7_faultNow_171 : decode cX7_faultNow 171 = .ok (.ireturn, 1) := by decide +kernel
theorem dX7_faultNow_172 : decode cX7_faultNow 172 = .ok (.iinc 1 1, 3) := by decide +kernel
theorem dX7_faultNow_175 : decode cX7_faultNow 175 = .ok (.goto (-128), 3) := by decide +kernel
theorem dX7_faultNow_178 : decode cX7_faultNow 178 = .ok (.goto (-171), 3) := by decide +kernel
theorem dX7_fault_0 : decode cX7_fault 0 = .ok (.aload_n 0, 1) := by decide +kernel
theorem dX7_fault_1 : decode cX7_fault 1 = .ok (.invokevirtual 129, 3) := by decide +kernel
theorem dX7_fault_4 : decode cX7_fault 4 = .ok (.ireturn, 1) := by decide +kernel
theorem dX7_lastTime_0 : decode cX7_lastTime 0 = .ok (.aload_n 0, 1) := by decide +kernel
theorem dX7_lastTime_1 : decode cX7_lastTime 1 = .ok (.getfield 133, 3) := by decide +kernel
theorem dX7_lastTime_4 : decode cX7_lastTime 4 = .ok (.ifCond .ne 7, 3) := by decide +kernel
theorem dX7_lastTime_7 : decode cX7_lastTime 7 = .ok (.iconst 0, 1) := by decide +kernel
theorem dX7_lastTime_8 : decode cX7_lastTime 8 = .ok (.goto 14, 3) := by decide +kernel
theorem dX7_lastTime_11 : decode cX7_lastTime 11 = .ok (.aload_n 0, 1) := by decide +kernel
theorem dX7_lastTime_12 : decode cX7_lastTime 12 = .ok (.getfield 34, 3) := by decide +kernel
theorem dX7_lastTime_15 : decode cX7_lastTime 15 = .ok (.aload_n 0, 1) := by decide +kernel
theorem dX7_lastTime_16 : decode cX7_lastTime 16 = .ok (.getfield 133, 3) := by decide +kernel
theorem dX7_lastTime_19 : decode cX7_lastTime 19 = .ok (.iconst 1, 1) := by decide +kernel
theorem dX7_lastTime_20 : decode cX7_lastTime 20 = .ok (.isub, 1) := by decide +kernel
theorem dX7_lastTime_21 : decode cX7_lastTime 21 = .ok (.iaload, 1) := by decide +kernel
theorem dX7_lastTime_22 : decode cX7_lastTime 22 = .ok (.ireturn, 1) := by decide +kernel
theorem dX7_tells_0 : decode cX7_tells 0 = .ok (.aload_n 0, 1) := by decide +kernel
theorem dX7_tells_1 : decode cX7_tells 1 = .ok (.getfield 25, 3) := by decide +kernel
theorem dX7_tells_4 : decode cX7_tells 4 = .ok (.aload_n 0, 1) := by decide +kernel
theorem dX7_tells_5 : decode cX7_tells 5 = .ok (.getfield 133, 3) := by decide +kernel
theorem dX7_tells_8 : decode cX7_tells 8 = .ok (.iload_n 1, 1) := by decide +kernel
theorem dX7_tells_9 : decode cX7_tells 9 = .ok (.iastore, 1) := by decide +kernel
theorem dX7_tells_10 : decode cX7_tells 10 = .ok (.aload_n 0, 1) := by decide +kernel
theorem dX7_tells_11 : decode cX7_tells 11 = .ok (.getfield 28, 3) := by decide +kernel
theorem dX7_tells_14 : decode cX7_tells 14 = .ok (.aload_n 0, 1) := by decide +kernel
theorem dX7_tells_15 : decode cX7_tells 15 = .ok (.getfield 133, 3) := by decide +kernel
theorem dX7_tells_18 : decode cX7_tells 18 = .ok (.iload_n 2, 1) := by decide +kernel
theorem dX7_tells_19 : decode cX7_tells 19 = .ok (.iastore, 1) := by decide +kernel
theorem dX7_tells_20 : decode cX7_tells 20 = .ok (.aload_n 0, 1) := by decide +kernel
theorem dX7_tells_21 : decode cX7_tells 21 = .ok (.getfield 31, 3) := by decide +kernel
theorem dX7_tells_24 : decode cX7_tells 24 = .ok (.aload_n 0, 1) := by decide +kernel
theorem dX7_tells_25 : decode cX7_tells 25 = .ok (.getfield 133, 3) := by decide +kernel
theorem dX7_tells_28 : decode cX7_tells 28 = .ok (.iload_n 3, 1) := by decide +kernel
theorem dX7_tells_29 : decode cX7_tells 29 = .ok (.iastore, 1) := by decide +kernel
theorem dX7_tells_30 : decode cX7_tells 30 = .ok (.aload_n 0, 1) := by decide +kernel
theorem dX7_tells_31 : decode cX7_tells 31 = .ok (.getfield 34, 3) := by decide +kernel
theorem dX7_tells_34 : decode cX7_tells 34 = .ok (.aload_n 0, 1) := by decide +kernel
theorem dX7_tells_35 : decode cX7_tells 35 = .ok (.getfield 133, 3) := by decide +kernel
theorem dX7_tells_38 : decode cX7_tells 38 = .ok (.iload 4, 2) := by decide +kernel
theorem dX7_tells_40 : decode cX7_tells 40 = .ok (.iastore, 1) := by decide +kernel
theorem dX7_tells_41 : decode cX7_tells 41 = .ok (.aload_n 0, 1) := by decide +kernel
theorem dX7_tells_42 : decode cX7_tells 42 = .ok (.dup, 1) := by decide +kernel
theorem dX7_tells_43 : decode cX7_tells 43 = .ok (.getfield 133, 3) := by decide +kernel
theorem dX7_tells_46 : decode cX7_tells 46 = .ok (.iconst 1, 1) := by decide +kernel
theorem dX7_tells_47 : decode cX7_tells 47 = .ok (.iadd, 1) := by decide +kernel
theorem dX7_tells_48 : decode cX7_tells 48 = .ok (.putfield 133, 3) := by decide +kernel
theorem dX7_tells_51 : decode cX7_tells 51 = .ok (.aload_n 0, 1) := by decide +kernel
theorem dX7_tells_52 : decode cX7_tells 52 = .ok (.iconst 0, 1) := by decide +kernel
theorem dX7_tells_53 : decode cX7_tells 53 = .ok (.putfield 102, 3) := by decide +kernel
theorem dX7_tells_56 : decode cX7_tells 56 = .ok (.return_, 1) := by decide +kernel
theorem dX7_tell_0 : decode cX7_tell 0 = .ok (.iload_n 1, 1) := by decide +kernel
theorem dX7_tell_1 : decode cX7_tell 1 = .ok (.aload_n 0, 1) := by decide +kernel
theorem dX7_tell_2 : decode cX7_tell 2 = .ok (.invokevirtual 136, 3) := by decide +kernel
theorem dX7_tell_5 : decode cX7_tell 5 = .ok (.sipush 999, 3) := by decide +kernel
theorem dX7_tell_8 : decode cX7_tell 8 = .ok (.invokestatic 98, 3) := by decide +kernel
theorem dX7_tell_11 : decode cX7_tell 11 = .ok (.ifCond .ne 6, 3) := by decide +kernel
theorem dX7_tell_14 : decode cX7_tell 14 = .ok (.bipush (-2), 2) := by decide +kernel
theorem dX7_tell_16 : decode cX7_tell 16 = .ok (.ireturn, 1) := by decide +kernel
theorem dX7_tell_17 : decode cX7_tell 17 = .ok (.aload_n 0, 1) := by decide +kernel
theorem dX7_tell_18 : decode cX7_tell 18 = .ok (.invokevirtual 129, 3) := by decide +kernel
theorem dX7_tell_21 : decode cX7_tell 21 = .ok (.iconst (-1), 1) := by decide +kernel
theorem dX7_tell_22 : decode cX7_tell 22 = .ok (.if_icmp .eq 6, 3) := by decide +kernel
theorem dX7_tell_25 : decode cX7_tell 25 = .ok (.bipush (-3), 2) := by decide +kernel
theorem dX7_tell_27 : decode cX7_tell 27 = .ok (.ireturn, 1) := by decide +kernel
theorem dX7_tell_28 : decode cX7_tell 28 = .ok (.iconst 0, 1) := by decide +kernel
theorem dX7_tell_29 : decode cX7_tell 29 = .ok (.istore_n 2, 1) := by decide +kernel
theorem dX7_tell_30 : decode cX7_tell 30 = .ok (.iload_n 2, 1) := by decide +kernel
theorem dX7_tell_31 : decode cX7_tell 31 = .ok (.aload_n 0, 1) := by decide +kernel
theorem dX7_tell_32 : decode cX7_tell 32 = .ok (.getfield 122, 3) := by decide +kernel
theorem dX7_tell_35 : decode cX7_tell 35 = .ok (.if_icmp .ge 41, 3) := by decide +kernel
theorem dX7_tell_38 : decode cX7_tell 38 = .ok (.aload_n 0, 1) := by decide +kernel
theorem dX7_tell_39 : decode cX7_tell 39 = .ok (.getfield 133, 3) := by decide +kernel
theorem dX7_tell_42 : decode cX7_tell 42 = .ok (.bipush 60, 2) := by decide +kernel
theorem dX7_tell_44 : decode cX7_tell 44 = .ok (.if_icmp .ge 32, 3) := by decide +kernel
theorem dX7_tell_47 : decode cX7_tell 47 = .ok (.aload_n 0, 1) := by decide +kernel
theorem dX7_tell_48 : decode cX7_tell 48 = .ok (.aload_n 0, 1) := by decide +kernel
theorem dX7_tell_49 : decode cX7_tell 49 = .ok (.getfield 44, 3) := by decide +kernel
theorem dX7_tell_52 : decode cX7_tell 52 = .ok (.iload_n 2, 1) := by decide +kernel
theorem dX7_tell_53 : decode cX7_tell 53 = .ok (.iaload, 1) := by decide +kernel
theorem dX7_tell_54 : decode cX7_tell 54 = .ok (.aload_n 0, 1) := by decide +kernel
theorem dX7_tell_55 : decode cX7_tell 55 = .ok (.getfield 47, 3) := by decide +kernel
theorem dX7_tell_58 : decode cX7_tell 58 = .ok (.iload_n 2, 1) := by decide +kernel
theorem dX7_tell_59 : decode cX7_tell 59 = .ok (.iaload, 1) := by decide +kernel
theorem dX7_tell_60 : decode cX7_tell 60 = .ok (.aload_n 0, 1) := by decide +kernel
theorem dX7_tell_61 : decode cX7_tell 61 = .ok (.getfield 50, 3) := by decide +kernel
theorem dX7_tell_64 : decode cX7_tell 64 = .ok (.iload_n 2, 1) := by decide +kernel
theorem dX7_tell_65 : decode cX7_tell 65 = .ok (.iaload, 1) := by decide +kernel
theorem dX7_tell_66 : decode cX7_tell 66 = .ok (.iload_n 1, 1) := by decide +kernel
theorem dX7_tell_67 : decode cX7_tell 67 = .ok (.invokevirtual 139, 3) := by decide +kernel
theorem dX7_tell_70 : decode cX7_tell 70 = .ok (.iinc 2 1, 3) := by decide +kernel
theorem dX7_tell_73 : decode cX7_tell 73 = .ok (.goto (-43), 3) := by decide +kernel
theorem dX7_tell_76 : decode cX7_tell 76 = .ok (.aload_n 0, 1) := by decide +kernel
theorem dX7_tell_77 : decode cX7_tell 77 = .ok (.iconst 0, 1) := by decide +kernel
theorem dX7_tell_78 : decode cX7_tell 78 = .ok (.putfield 119, 3) := by decide +kernel
theorem dX7_tell_81 : decode cX7_tell 81 = .ok (.iload_n 2, 1) := by decide +kernel
theorem dX7_tell_82 : decode cX7_tell 82 = .ok (.ireturn, 1) := by decide +kernel
theorem dX7_read_0 : decode cX7_read 0 = .ok (.iload_n 1, 1) := by decide +kernel
theorem dX7_read_1 : decode cX7_read 1 = .ok (.invokestatic 143, 3) := by decide +kernel
theorem dX7_read_4 : decode cX7_read 4 = .ok (.ifCond .eq 25, 3) := by decide +kernel
theorem dX7_read_7 : decode cX7_read 7 = .ok (.aload_n 0, 1) := by decide +kernel
theorem dX7_read_8 : decode cX7_read 8 = .ok (.iload_n 2, 1) := by decide +kernel
theorem dX7_read_9 : decode cX7_read 9 = .ok (.invokevirtual 106, 3) := by decide +kernel
theorem dX7_read_12 : decode cX7_read 12 = .ok (.ifCond .eq 17, 3) := by decide +kernel
theorem dX7_read_15 : decode cX7_read 15 = .ok (.iload_n 3, 1) := by decide +kernel
theorem dX7_read_16 : decode cX7_read 16 = .ok (.aload_n 0, 1) := by decide +kernel
theorem dX7_read_17 : decode cX7_read 17 = .ok (.invokevirtual 136, 3) := by decide +kernel
theorem dX7_read_20 : decode cX7_read 20 = .ok (.sipush 999, 3) := by decide +kernel
theorem dX7_read_23 : decode cX7_read 23 = .ok (.invokestatic 98, 3) := by decide +kernel
theorem dX7_read_26 : decode cX7_read 26 = .ok (.ifCond .ne 6, 3) := by decide +kernel
theorem dX7_read_29 : decode cX7_read 29 = .ok (.bipush (-2), 2) := by decide +kernel
theorem dX7_read_31 : decode cX7_read 31 = .ok (.ireturn, 1) := by decide +kernel
theorem dX7_read_32 : decode cX7_read 32 = .ok (.aload_n 0, 1) := by decide +kernel
theorem dX7_read_33 : decode cX7_read 33 = .ok (.getfield 77, 3) := by decide +kernel
theorem dX7_read_36 : decode cX7_read 36 = .ok (.iload_n 1, 1) := by decide +kernel
theorem dX7_read_37 : decode cX7_read 37 = .ok (.baload, 1) := by decide +kernel
theorem dX7_read_38 : decode cX7_read 38 = .ok (.ifCond .ne 9, 3) := by decide +kernel
theorem dX7_read_41 : decode cX7_read 41 = .ok (.aload_n 0, 1) := by decide +kernel
theorem dX7_read_42 : decode cX7_read 42 = .ok (.iconst 1, 1) := by decide +kernel
theorem dX7_read_43 : decode cX7_read 43 = .ok (.invokevirtual 146, 3) := by decide +kernel
theorem dX7_read_46 : decode cX7_read 46 = .ok (.ireturn, 1) := by decide +kernel
theorem dX7_read_47 : decode cX7_read 47 = .ok (.iconst 0, 1) := by decide +kernel
theorem dX7_read_48 : decode cX7_read 48 = .ok (.istore 4, 2) := by decide +kernel
theorem dX7_read_50 : decode cX7_read 50 = .ok (.iload 4, 2) := by decide +kernel
theorem dX7_read_52 : decode cX7_read 52 = .ok (.bipush 10, 2) := by decide +kernel
theorem dX7_read_54 : decode cX7_read 54 = .ok (.if_icmp .ge 69, 3) := by decide +kernel
theorem dX7_read_57 : decode cX7_read 57 = .ok (.iload 4, 2) := by decide +kernel
theorem dX7_read_59 : decode cX7_read 59 = .ok (.aload_n 0, 1) := by decide +kernel
theorem dX7_read_60 : decode cX7_read 60 = .ok (.getfield 84, 3) := by decide +kernel
theorem dX7_read_63 : decode cX7_read 63 = .ok (.iload_n 1, 1) := by decide +kernel
theorem dX7_read_64 : decode cX7_read 64 = .ok (.iaload, 1) := by decide +kernel
theorem dX7_read_65 : decode cX7_read 65 = .ok (.if_icmp .ge 58, 3) := by decide +kernel
theorem dX7_read_68 : decode cX7_read 68 = .ok (.aload_n 0, 1) := by decide +kernel
theorem dX7_read_69 : decode cX7_read 69 = .ok (.getfield 133, 3) := by decide +kernel
theorem dX7_read_72 : decode cX7_read 72 = .ok (.bipush 60, 2) := by decide +kernel
theorem dX7_read_74 : decode cX7_read 74 = .ok (.if_icmp .ge 49, 3) := by decide +kernel
theorem dX7_read_77 : decode cX7_read 77 = .ok (.aload_n 0, 1) := by decide +kernel
theorem dX7_read_78 : decode cX7_read 78 = .ok (.getfield 87, 3) := by decide +kernel
theorem dX7_read_81 : decode cX7_read 81 = .ok (.bipush 40, 2) := by decide +kernel
theorem dX7_read_83 : decode cX7_read 83 = .ok (.iload_n 1, 1) := by decide +kernel
theorem dX7_read_84 : decode cX7_read 84 = .ok (.imul, 1) := by decide +kernel
theorem dX7_read_85 : decode cX7_read 85 = .ok (.iload 4, 2) := by decide +kernel
theorem dX7_read_87 : decode cX7_read 87 = .ok (.iadd, 1) := by decide +kernel
theorem dX7_read_88 : decode cX7_read 88 = .ok (.iaload, 1) := by decide +kernel
theorem dX7_read_89 : decode cX7_read 89 = .ok (.iconst 0, 1) := by decide +kernel
theorem dX7_read_90 : decode cX7_read 90 = .ok (.iconst 1, 1) := by decide +kernel
theorem dX7_read_91 : decode cX7_read 91 = .ok (.invokestatic 98, 3) := by decide +kernel
theorem dX7_read_94 : decode cX7_read 94 = .ok (.ifCond .eq 29, 3) := by decide +kernel
theorem dX7_read_97 : decode cX7_read 97 = .ok (.aload_n 0, 1) := by decide +kernel
theorem dX7_read_98 : decode cX7_read 98 = .ok (.iload_n 2, 1) := by decide +kernel
theorem dX7_read_99 : decode cX7_read 99 = .ok (.iload 4, 2) := by decide +kernel
theorem dX7_read_101 : decode cX7_read 101 = .ok (.aload_n 0, 1) := by decide +kernel
theorem dX7_read_102 : decode cX7_read 102 = .ok (.getfield 87, 3) := by decide +kernel
theorem dX7_read_105 : decode cX7_read 105 = .ok (.bipush 40, 2) := by decide +kernel
theorem dX7_read_107 : decode cX7_read 107 = .ok (.iload_n 1, 1) := by decide +kernel
theorem dX7_read_108 : decode cX7_read 108 = .ok (.imul, 1) := by decide +kernel
theorem dX7_read_109 : decode cX7_read 109 = .ok (.iload 4, 2) := by decide +kernel
theorem dX7_read_111 : decode cX7_read 111 = .ok (.iadd, 1) := by decide +kernel
theorem dX7_read_112 : decode cX7_read 112 = .ok (.iaload, 1) := by decide +kernel
theorem dX7_read_113 : decode cX7_read 113 = .ok (.iload_n 3, 1) := by decide +kernel
theorem dX7_read_114 : decode cX7_read 114 = .ok (.invokevirtual 139, 3) := by decide +kernel
theorem dX7_read_117 : decode cX7_read 117 = .ok (.iinc 4 1, 3) := by decide +kernel
theorem dX7_read_120 : decode cX7_read 120 = .ok (.goto (-70), 3) := by decide +kernel
theorem dX7_read_123 : decode cX7_read 123 = .ok (.iload 4, 2) := by decide +kernel
theorem dX7_read_125 : decode cX7_read 125 = .ok (.ireturn, 1) := by decide +kernel
theorem dX7_asOf_0 : decode cX7_asOf 0 = .ok (.iload_n 1, 1) := by decide +kernel
theorem dX7_asOf_1 : decode cX7_asOf 1 = .ok (.iconst 0, 1) := by decide +kernel
theorem dX7_asOf_2 : decode cX7_asOf 2 = .ok (.sipush 999, 3) := by decide +kernel
theorem dX7_asOf_5 : decode cX7_asOf 5 = .ok (.invokestatic 98, 3) := by decide +kernel
theorem dX7_asOf_8 : decode cX7_asOf 8 = .ok (.ifCond .ne 6, 3) := by decide +kernel
theorem dX7_asOf_11 : decode cX7_asOf 11 = .ok (.bipush (-2), 2) := by decide +kernel
theorem dX7_asOf_13 : decode cX7_asOf 13 = .ok (.ireturn, 1) := by decide +kernel
theorem dX7_asOf_14 : decode cX7_asOf 14 = .ok (.aload_n 0, 1) := by decide +kernel
theorem dX7_asOf_15 : decode cX7_asOf 15 = .ok (.getfield 37, 3) := by decide +kernel
theorem dX7_asOf_18 : decode cX7_asOf 18 = .ok (.istore_n 2, 1) := by decide +kernel
theorem dX7_asOf_19 : decode cX7_asOf 19 = .ok (.aload_n 0, 1) := by decide +kernel
theorem dX7_asOf_20 : decode cX7_asOf 20 = .ok (.iload_n 1, 1) := by decide +kernel
theorem dX7_asOf_21 : decode cX7_asOf 21 = .ok (.putfield 37, 3) := by decide +kernel
theorem dX7_asOf_24 : decode cX7_asOf 24 = .ok (.aload_n 0, 1) := by decide +kernel
theorem dX7_asOf_25 : decode cX7_asOf 25 = .ok (.iconst 0, 1) := by decide +kernel
theorem dX7_asOf_26 : decode cX7_asOf 26 = .ok (.putfield 102, 3) := by decide +kernel
theorem dX7_asOf_29 : decode cX7_asOf 29 = .ok (.iload_n 2, 1) := by decide +kernel
theorem dX7_asOf_30 : decode cX7_asOf 30 = .ok (.ireturn, 1) := by decide +kernel
theorem dX7_lays_0 : decode cX7_lays 0 = .ok (.iconst 0, 1) := by decide +kernel
theorem dX7_lays_1 : decode cX7_lays 1 = .ok (.istore_n 1, 1) := by decide +kernel
theorem dX7_lays_2 : decode cX7_lays 2 = .ok (.iload_n 1, 1) := by decide +kernel
theorem dX7_lays_3 : decode cX7_lays 3 = .ok (.aload_n 0, 1) := by decide +kernel
theorem dX7_lays_4 : decode cX7_lays 4 = .ok (.getfield 95, 3) := by decide +kernel
theorem dX7_lays_7 : decode cX7_lays 7 = .ok (.if_icmp .ge 16, 3) := by decide +kernel
theorem dX7_lays_10 : decode cX7_lays 10 = .ok (.aload_n 0, 1) := by decide +kernel
theorem dX7_lays_11 : decode cX7_lays 11 = .ok (.getfield 53, 3) := by decide +kernel
theorem dX7_lays_14 : decode cX7_lays 14 = .ok (.iload_n 1, 1) := by decide +kernel
theorem dX7_lays_15 : decode cX7_lays 15 = .ok (.iconst 0, 1) := by decide +kernel
theorem dX7_lays_16 : decode cX7_lays 16 = .ok (.iastore, 1) := by decide +kernel
theorem dX7_lays_17 : decode cX7_lays 17 = .ok (.iinc 1 1, 3) := by decide +kernel
theorem dX7_lays_20 : decode cX7_lays 20 = .ok (.goto (-18), 3) := by decide +kernel
theorem dX7_lays_23 : decode cX7_lays 23 = .ok (.iconst 0, 1) := by decide +kernel
theorem dX7_lays_24 : decode cX7_lays 24 = .ok (.istore_n 1, 1) := by decide +kernel
theorem dX7_lays_25 : decode cX7_lays 25 = .ok (.iload_n 1, 1) := by decide +kernel
theorem dX7_lays_26 : decode cX7_lays 26 = .ok (.aload_n 0, 1) := by decide +kernel
theorem dX7_lays_27 : decode cX7_lays 27 = .ok (.getfield 133, 3) := by decide +kernel
theorem dX7_lays_30 : decode cX7_lays 30 = .ok (.if_icmp .ge 83, 3) := by decide +kernel
theorem dX7_lays_33 : decode cX7_lays 33 = .ok (.aload_n 0, 1) := by decide +kernel
theorem dX7_lays_34 : decode cX7_lays 34 = .ok (.getfield 34, 3) := by decide +kernel
theorem dX7_lays_37 : decode cX7_lays 37 = .ok (.iload_n 1, 1) := by decide +kernel
theorem dX7_lays_38 : decode cX7_lays 38 = .ok (.iaload, 1) := by decide +kernel
theorem dX7_lays_39 : decode cX7_lays 39 = .ok (.aload_n 0, 1) := by decide +kernel
theorem dX7_lays_40 : decode cX7_lays 40 = .ok (.getfield 37, 3) := by decide +kernel
theorem dX7_lays_43 : decode cX7_lays 43 = .ok (.if_icmp .gt 64, 3) := by decide +kernel
theorem dX7_lays_46 : decode cX7_lays 46 = .ok (.iconst 1, 1) := by decide +kernel
theorem dX7_lays_47 : decode cX7_lays 47 = .ok (.aload_n 0, 1) := by decide +kernel
theorem dX7_lays_48 : decode cX7_lays 48 = .ok (.getfield 28, 3) := by decide +kernel
theorem dX7_lays_51 : decode cX7_lays 51 = .ok (.iload_n 1, 1) := by decide +kernel
theorem dX7_lays_52 : decode cX7_lays 52 = .ok (.iaload, 1) := by decide +kernel
theorem dX7_lays_53 : decode cX7_lays 53 = .ok (.ishl, 1) := by decide +kernel
theorem dX7_lays_54 : decode cX7_lays 54 = .ok (.istore_n 2, 1) := by decide +kernel
theorem dX7_lays_55 : decode cX7_lays 55 = .ok (.aload_n 0, 1) := by decide +kernel
theorem dX7_lays_56 : decode cX7_lays 56 = .ok (.getfield 53, 3) := by decide +kernel
theorem dX7_lays_59 : decode cX7_lays 59 = .ok (.aload_n 0, 1) := by decide +kernel
theorem dX7_lays_60 : decode cX7_lays 60 = .ok (.getfield 25, 3) := by decide +kernel
theorem dX7_lays_63 : decode cX7_lays 63 = .ok (.iload_n 1, 1) := by decide +kernel
theorem dX7_lays_64 : decode cX7_lays 64 = .ok (.iaload, 1) := by decide +kernel
theorem dX7_lays_65 : decode cX7_lays 65 = .ok (.aload_n 0, 1) := by decide +kernel
theorem dX7_lays_66 : decode cX7_lays 66 = .ok (.getfield 31, 3) := by decide +kernel
theorem dX7_lays_69 : decode cX7_lays 69 = .ok (.iload_n 1, 1) := by decide +kernel
theorem dX7_lays_70 : decode cX7_lays 70 = .ok (.iaload, 1) := by decide +kernel
theorem dX7_lays_71 : decode cX7_lays 71 = .ok (.iconst 1, 1) := by decide +kernel
theorem dX7_lays_72 : decode cX7_lays 72 = .ok (.if_icmp .ne 19, 3) := by decide +kernel
theorem dX7_lays_75 : decode cX7_lays 75 = .ok (.aload_n 0, 1) := by decide +kernel
theorem dX7_lays_76 : decode cX7_lays 76 = .ok (.getfield 53, 3) := by decide +kernel
theorem dX7_lays_79 : decode cX7_lays 79 = .ok (.aload_n 0, 1) := by decide +kernel
theorem dX7_lays_80 : decode cX7_lays 80 = .ok (.getfield 25, 3) := by decide +kernel
theorem dX7_lays_83 : decode cX7_lays 83 = .ok (.iload_n 1, 1) := by decide +kernel
theorem dX7_lays_84 : decode cX7_lays 84 = .ok (.iaload, 1) := by decide +kernel
theorem dX7_lays_85 : decode cX7_lays 85 = .ok (.iaload, 1) := by decide +kernel
theorem dX7_lays_86 : decode cX7_lays 86 = .ok (.iload_n 2, 1) := by decide +kernel
theorem dX7_lays_87 : decode cX7_lays 87 = .ok (.ior, 1) := by decide +kernel
theorem dX7_lays_88 : decode cX7_lays 88 = .ok (.goto 18, 3) := by decide +kernel
theorem dX7_lays_91 : decode cX7_lays 91 = .ok (.aload_n 0, 1) := by decide +kernel
theorem dX7_lays_92 : decode cX7_lays 92 = .ok (.getfield 53, 3) := by decide +kernel
theorem dX7_lays_95 : decode cX7_lays 95 = .ok (.aload_n 0, 1) := by decide +kernel
theorem dX7_lays_96 : decode cX7_lays 96 = .ok (.getfield 25, 3) := by decide +kernel
theorem dX7_lays_99 : decode cX7_lays 99 = .ok (.iload_n 1, 1) := by decide +kernel
theorem dX7_lays_100 : decode cX7_lays 100 = .ok (.iaload, 1) := by decide +kernel
theorem dX7_lays_101 : decode cX7_lays 101 = .ok (.iaload, 1) := by decide +kernel
theorem dX7_lays_102 : decode cX7_lays 102 = .ok (.iload_n 2, 1) := by decide +kernel
theorem dX7_lays_103 : decode cX7_lays 103 = .ok (.iconst (-1), 1) := by decide +kernel
theorem dX7_lays_104 : decode cX7_lays 104 = .ok (.ixor, 1) := by decide +kernel
theorem dX7_lays_105 : decode cX7_lays 105 = .ok (.iand, 1) := by decide +kernel
theorem dX7_lays_106 : decode cX7_lays 106 = .ok (.iastore, 1) := by decide +kernel
theorem dX7_lays_107 : decode cX7_lays 107 = .ok (.iinc 1 1, 3) := by decide +kernel
theorem dX7_lays_110 : decode cX7_lays 110 = .ok (.goto (-85), 3) := by decide +kernel
theorem dX7_lays_113 : decode cX7_lays 113 = .ok (.return_, 1) := by decide +kernel
theorem dX7_has_0 : decode cX7_has 0 = .ok (.aload_n 0, 1) := by decide +kernel
theorem dX7_has_1 : decode cX7_has 1 = .ok (.iload_n 1, 1) := by decide +kernel
theorem dX7_has_2 : decode cX7_has 2 = .ok (.invokevirtual 106, 3) := by decide +kernel
theorem dX7_has_5 : decode cX7_has 5 = .ok (.ifCond .ne 6, 3) := by decide +kernel
theorem dX7_has_8 : decode cX7_has 8 = .ok (.bipush (-2), 2) := by decide +kernel
theorem dX7_has_10 : decode cX7_has 10 = .ok (.ireturn, 1) := by decide +kernel
theorem dX7_has_11 : decode cX7_has 11 = .ok (.aload_n 0, 1) := by decide +kernel
theorem dX7_has_12 : decode cX7_has 12 = .ok (.invokevirtual 149, 3) := by decide +kernel
theorem dX7_has_15 : decode cX7_has 15 = .ok (.aload_n 0, 1) := by decide +kernel
theorem dX7_has_16 : decode cX7_has 16 = .ok (.getfield 53, 3) := by decide +kernel
theorem dX7_has_19 : decode cX7_has 19 = .ok (.iload_n 1, 1) := by decide +kernel
theorem dX7_has_20 : decode cX7_has 20 = .ok (.iaload, 1) := by decide +kernel
theorem dX7_has_21 : decode cX7_has 21 = .ok (.ireturn, 1) := by decide +kernel
theorem dX7_gapsOf_0 : decode cX7_gapsOf 0 = .ok (.iconst 0, 1) := by decide +kernel
theorem dX7_gapsOf_1 : decode cX7_gapsOf 1 = .ok (.istore_n 2, 1) := by decide +kernel
theorem dX7_gapsOf_2 : decode cX7_gapsOf 2 = .ok (.iconst (-1), 1) := by decide +kernel
theorem dX7_gapsOf_3 : decode cX7_gapsOf 3 = .ok (.istore_n 3, 1) := by decide +kernel
theorem dX7_gapsOf_4 : decode cX7_gapsOf 4 = .ok (.iconst 0, 1) := by decide +kernel
theorem dX7_gapsOf_5 : decode cX7_gapsOf 5 = .ok (.istore 4, 2) := by decide +kernel
theorem dX7_gapsOf_7 : decode cX7_gapsOf 7 = .ok (.iload 4, 2) := by decide +kernel
theorem dX7_gapsOf_9 : decode cX7_gapsOf 9 = .ok (.aload_n 0, 1) := by decide +kernel
theorem dX7_gapsOf_10 : decode cX7_gapsOf 10 = .ok (.getfield 95, 3) := by decide +kernel
theorem dX7_gapsOf_13 : decode cX7_gapsOf 13 = .ok (.if_icmp .ge 76, 3) := by decide +kernel
theorem dX7_gapsOf_16 : decode cX7_gapsOf 16 = .ok (.aload_n 0, 1) := by decide +kernel
theorem dX7_gapsOf_17 : decode cX7_gapsOf 17 = .ok (.getfield 53, 3) := by decide +kernel
theorem dX7_gapsOf_20 : decode cX7_gapsOf 20 = .ok (.aload_n 0, 1) := by decide +kernel
theorem dX7_gapsOf_21 : decode cX7_gapsOf 21 = .ok (.getfield 56, 3) := by decide +kernel
theorem dX7_gapsOf_24 : decode cX7_gapsOf 24 = .ok (.iload 4, 2) := by decide +kernel
theorem dX7_gapsOf_26 : decode cX7_gapsOf 26 = .ok (.iaload, 1) := by decide +kernel
theorem dX7_gapsOf_27 : decode cX7_gapsOf 27 = .ok (.iaload, 1) := by decide +kernel
theorem dX7_gapsOf_28 : decode cX7_gapsOf 28 = .ok (.iload_n 1, 1) := by decide +kernel
theorem dX7_gapsOf_29 : decode cX7_gapsOf 29 = .ok (.invokestatic 152, 3) := by decide +kernel
theorem dX7_gapsOf_32 : decode cX7_gapsOf 32 = .ok (.ifCond .eq 21, 3) := by decide +kernel
theorem dX7_gapsOf_35 : decode cX7_gapsOf 35 = .ok (.iload_n 2, 1) := by decide +kernel
theorem dX7_gapsOf_36 : decode cX7_gapsOf 36 = .ok (.iload_n 3, 1) := by decide +kernel
theorem dX7_gapsOf_37 : decode cX7_gapsOf 37 = .ok (.iconst (-1), 1) := by decide +kernel
theorem dX7_gapsOf_38 : decode cX7_gapsOf 38 = .ok (.if_icmp .ne 7, 3) := by decide +kernel
theorem dX7_gapsOf_41 : decode cX7_gapsOf 41 = .ok (.iconst 0, 1) := by decide +kernel
theorem dX7_gapsOf_42 : decode cX7_gapsOf 42 = .ok (.goto 4, 3) := by decide +kernel
theorem dX7_gapsOf_45 : decode cX7_gapsOf 45 = .ok (.iload_n 3, 1) := by decide +kernel
theorem dX7_gapsOf_46 : decode cX7_gapsOf 46 = .ok (.iadd, 1) := by decide +kernel
theorem dX7_gapsOf_47 : decode cX7_gapsOf 47 = .ok (.istore_n 2, 1) := by decide +kernel
theorem dX7_gapsOf_48 : decode cX7_gapsOf 48 = .ok (.iconst 0, 1) := by decide +kernel
theorem dX7_gapsOf_49 : decode cX7_gapsOf 49 = .ok (.istore_n 3, 1) := by decide +kernel
theorem dX7_gapsOf_50 : decode cX7_gapsOf 50 = .ok (.goto 33, 3) := by decide +kernel
theorem dX7_gapsOf_53 : decode cX7_gapsOf 53 = .ok (.iload_n 3, 1) := by decide +kernel
theorem dX7_gapsOf_54 : decode cX7_gapsOf 54 = .ok (.iconst (-1), 1) := by decide +kernel
theorem dX7_gapsOf_55 : decode cX7_gapsOf 55 = .ok (.if_icmp .eq 28, 3) := by decide +kernel
theorem dX7_gapsOf_58 : decode cX7_gapsOf 58 = .ok (.iload_n 3, 1) := by decide +kernel
theorem dX7_gapsOf_59 : decode cX7_gapsOf 59 = .ok (.aload_n 0, 1) := by decide +kernel
theorem dX7_gapsOf_60 : decode cX7_gapsOf 60 = .ok (.getfield 110, 3) := by decide +kernel
theorem dX7_gapsOf_63 : decode cX7_gapsOf 63 = .ok (.aload_n 0, 1) := by decide +kernel
theorem dX7_gapsOf_64 : decode cX7_gapsOf 64 = .ok (.getfield 56, 3) := by decide +kernel
theorem dX7_gapsOf_67 : decode cX7_gapsOf 67 = .ok (.iload 4, 2) := by decide +kernel
theorem dX7_gapsOf_69 : decode cX7_gapsOf 69 = .ok (.iaload, 1) := by decide +kernel
theorem dX7_gapsOf_70 : decode cX7_gapsOf 70 = .ok (.invokestatic 152, 3) := by decide +kernel
theorem dX7_gapsOf_73 : decode cX7_gapsOf 73 = .ok (.ifCond .eq 7, 3) := by decide +kernel
theorem dX7_gapsOf_76 : decode cX7_gapsOf 76 = .ok (.iconst 0, 1) := by decide +kernel
theorem dX7_gapsOf_77 : decode cX7_gapsOf 77 = .ok (.goto 4, 3) := by decide +kernel
theorem dX7_gapsOf_80 : decode cX7_gapsOf 80 = .ok (.iconst 1, 1) := by decide +kernel
theorem dX7_gapsOf_81 : decode cX7_gapsOf 81 = .ok (.iadd, 1) := by decide +kernel
theorem dX7_gapsOf_82 : decode cX7_gapsOf 82 = .ok (.istore_n 3, 1) := by decide +kernel
theorem dX7_gapsOf_83 : decode cX7_gapsOf 83 = .ok (.iinc 4 1, 3) := by decide +kernel
theorem dX7_gapsOf_86 : decode cX7_gapsOf 86 = .ok (.goto (-79), 3) := by decide +kernel
theorem dX7_gapsOf_89 : decode cX7_gapsOf 89 = .ok (.iload_n 2, 1) := by decide +kernel
theorem dX7_gapsOf_90 : decode cX7_gapsOf 90 = .ok (.ireturn, 1) := by decide +kernel
theorem dX7_gapsNow_0 : decode cX7_gapsNow 0 = .ok (.iconst 0, 1) := by decide +kernel
theorem dX7_gapsNow_1 : decode cX7_gapsNow 1 = .ok (.istore_n 1, 1) := by decide +kernel
theorem dX7_gapsNow_2 : decode cX7_gapsNow 2 = .ok (.iconst 0, 1) := by decide +kernel
theorem dX7_gapsNow_3 : decode cX7_gapsNow 3 = .ok (.istore_n 2, 1) := by decide +kernel
theorem dX7_gapsNow_4 : decode cX7_gapsNow 4 = .ok (.iload_n 2, 1) := by decide +kernel
theorem dX7_gapsNow_5 : decode cX7_gapsNow 5 = .ok (.bipush 10, 2) := by decide +kernel
theorem dX7_gapsNow_7 : decode cX7_gapsNow 7 = .ok (.if_icmp .ge 37, 3) := by decide +kernel
theorem dX7_gapsNow_10 : decode cX7_gapsNow 10 = .ok (.iload_n 1, 1) := by decide +kernel
theorem dX7_gapsNow_11 : decode cX7_gapsNow 11 = .ok (.aload_n 0, 1) := by decide +kernel
theorem dX7_gapsNow_12 : decode cX7_gapsNow 12 = .ok (.getfield 16, 3) := by decide +kernel
theorem dX7_gapsNow_15 : decode cX7_gapsNow 15 = .ok (.iload_n 2, 1) := by decide +kernel
theorem dX7_gapsNow_16 : decode cX7_gapsNow 16 = .ok (.iaload, 1) := by decide +kernel
theorem dX7_gapsNow_17 : decode cX7_gapsNow 17 = .ok (.ifCond .ne 7, 3) := by decide +kernel
theorem dX7_gapsNow_20 : decode cX7_gapsNow 20 = .ok (.iconst 0, 1) := by decide +kernel
theorem dX7_gapsNow_21 : decode cX7_gapsNow 21 = .ok (.goto 15, 3) := by decide +kernel
theorem dX7_gapsNow_24 : decode cX7_gapsNow 24 = .ok (.aload_n 0, 1) := by decide +kernel
theorem dX7_gapsNow_25 : decode cX7_gapsNow 25 = .ok (.getfield 16, 3) := by decide +kernel
theorem dX7_gapsNow_28 : decode cX7_gapsNow 28 = .ok (.iload_n 2, 1) := by decide +kernel
theorem dX7_gapsNow_29 : decode cX7_gapsNow 29 = .ok (.iaload, 1) := by decide +kernel
theorem dX7_gapsNow_30 : decode cX7_gapsNow 30 = .ok (.aload_n 0, 1) := by decide +kernel
theorem dX7_gapsNow_31 : decode cX7_gapsNow 31 = .ok (.iload_n 2, 1) := by decide +kernel
theorem dX7_gapsNow_32 : decode cX7_gapsNow 32 = .ok (.invokevirtual 156, 3) := by decide +kernel
theorem dX7_gapsNow_35 : decode cX7_gapsNow 35 = .ok (.imul, 1) := by decide +kernel
theorem dX7_gapsNow_36 : decode cX7_gapsNow 36 = .ok (.iadd, 1) := by decide +kernel
theorem dX7_gapsNow_37 : decode cX7_gapsNow 37 = .ok (.istore_n 1, 1) := by decide +kernel
theorem dX7_gapsNow_38 : decode cX7_gapsNow 38 = .ok (.iinc 2 1, 3) := by decide +kernel
theorem dX7_gapsNow_41 : decode cX7_gapsNow 41 = .ok (.goto (-37), 3) := by decide +kernel
theorem dX7_gapsNow_44 : decode cX7_gapsNow 44 = .ok (.iload_n 1, 1) := by decide +kernel
theorem dX7_gapsNow_45 : decode cX7_gapsNow 45 = .ok (.ireturn, 1) := by decide +kernel
theorem dX7_canBe_0 : decode cX7_canBe 0 = .ok (.iconst 0, 1) := by decide +kernel
theorem dX7_canBe_1 : decode cX7_canBe 1 = .ok (.istore_n 1, 1) := by decide +kernel
theorem dX7_canBe_2 : decode cX7_canBe 2 = .ok (.iconst 0, 1) := by decide +kernel
theorem dX7_canBe_3 : decode cX7_canBe 3 = .ok (.istore_n 2, 1) := by decide +kernel
theorem dX7_canBe_4 : decode cX7_canBe 4 = .ok (.iconst 0, 1) := by decide +kernel
theorem dX7_canBe_5 : decode cX7_canBe 5 = .ok (.istore_n 3, 1) := by decide +kernel
theorem dX7_canBe_6 : decode cX7_canBe 6 = .ok (.iload_n 3, 1) := by decide +kernel
theorem dX7_canBe_7 : decode cX7_canBe 7 = .ok (.aload_n 0, 1) := by decide +kernel
theorem dX7_canBe_8 : decode cX7_canBe 8 = .ok (.getfield 95, 3) := by decide +kernel
theorem dX7_canBe_11 : decode cX7_canBe 11 = .ok (.if_icmp .ge 106, 3) := by decide +kernel
theorem dX7_canBe_14 : decode cX7_canBe 14 = .ok (.aload_n 0, 1) := by decide +kernel
theorem dX7_canBe_15 : decode cX7_canBe 15 = .ok (.getfield 56, 3) := by decide +kernel
theorem dX7_canBe_18 : decode cX7_canBe 18 = .ok (.iload_n 3, 1) := by decide +kernel
theorem dX7_canBe_19 : decode cX7_canBe 19 = .ok (.iaload, 1) := by decide +kernel
theorem dX7_canBe_20 : decode cX7_canBe 20 = .ok (.istore 4, 2) := by decide +kernel
theorem dX7_canBe_22 : decode cX7_canBe 22 = .ok (.aload_n 0, 1) := by decide +kernel
theorem dX7_canBe_23 : decode cX7_canBe 23 = .ok (.getfield 7, 3) := by decide +kernel
theorem dX7_canBe_26 : decode cX7_canBe 26 = .ok (.iload 4, 2) := by decide +kernel
theorem dX7_canBe_28 : decode cX7_canBe 28 = .ok (.iaload, 1) := by decide +kernel
theorem dX7_canBe_29 : decode cX7_canBe 29 = .ok (.iload_n 1, 1) := by decide +kernel
theorem dX7_canBe_30 : decode cX7_canBe 30 = .ok (.if_icmp .le 13, 3) := by decide +kernel
theorem dX7_canBe_33 : decode cX7_canBe 33 = .ok (.aload_n 0, 1) := by decide +kernel
theorem dX7_canBe_34 : decode cX7_canBe 34 = .ok (.getfield 7, 3) := by decide +kernel
theorem dX7_canBe_37 : decode cX7_canBe 37 = .ok (.iload 4, 2) := by decide +kernel
theorem dX7_canBe_39 : decode cX7_canBe 39 = .ok (.iaload, 1) := by decide +kernel
theorem dX7_canBe_40 : decode cX7_canBe 40 = .ok (.goto 4, 3) := by decide +kernel
theorem dX7_canBe_43 : decode cX7_canBe 43 = .ok (.iload_n 1, 1) := by decide +kernel
theorem dX7_canBe_44 : decode cX7_canBe 44 = .ok (.istore_n 1, 1) := by decide +kernel
theorem dX7_canBe_45 : decode cX7_canBe 45 = .ok (.iload_n 1, 1) := by decide +kernel
theorem dX7_canBe_46 : decode cX7_canBe 46 = .ok (.aload_n 0, 1) := by decide +kernel
theorem dX7_canBe_47 : decode cX7_canBe 47 = .ok (.getfield 13, 3) := by decide +kernel
theorem dX7_canBe_50 : decode cX7_canBe 50 = .ok (.iload 4, 2) := by decide +kernel
theorem dX7_canBe_52 : decode cX7_canBe 52 = .ok (.iaload, 1) := by decide +kernel
theorem dX7_canBe_53 : decode cX7_canBe 53 = .ok (.if_icmp .le 5, 3) := by decide +kernel
theorem dX7_canBe_56 : decode cX7_canBe 56 = .ok (.iconst 0, 1) := by decide +kernel
theorem dX7_canBe_57 : decode cX7_canBe 57 = .ok (.ireturn, 1) := by decide +kernel
theorem dX7_canBe_58 : decode cX7_canBe 58 = .ok (.iconst 0, 1) := by decide +kernel
theorem dX7_canBe_59 : decode cX7_canBe 59 = .ok (.istore 5, 2) := by decide +kernel
theorem dX7_canBe_61 : decode cX7_canBe 61 = .ok (.iload 5, 2) := by decide +kernel
theorem dX7_canBe_63 : decode cX7_canBe 63 = .ok (.aload_n 0, 1) := by decide +kernel
theorem dX7_canBe_64 : decode cX7_canBe 64 = .ok (.getfield 116, 3) := by decide +kernel
theorem dX7_canBe_67 : decode cX7_canBe 67 = .ok (.if_icmp .ge 37, 3) := by decide +kernel
theorem dX7_canBe_70 : decode cX7_canBe 70 = .ok (.aload_n 0, 1) := by decide +kernel
theorem dX7_canBe_71 : decode cX7_canBe 71 = .ok (.getfield 19, 3) := by decide +kernel
theorem dX7_canBe_74 : decode cX7_canBe 74 = .ok (.iload 5, 2) := by decide +kernel
theorem dX7_canBe_76 : decode cX7_canBe 76 = .ok (.iaload, 1) := by decide +kernel
theorem dX7_canBe_77 : decode cX7_canBe 77 = .ok (.iload 4, 2) := by decide +kernel
theorem dX7_canBe_79 : decode cX7_canBe 79 = .ok (.if_icmp .ne 19, 3) := by decide +kernel
theorem dX7_canBe_82 : decode cX7_canBe 82 = .ok (.iload_n 2, 1) := by decide +kernel
theorem dX7_canBe_83 : decode cX7_canBe 83 = .ok (.aload_n 0, 1) := by decide +kernel
theorem dX7_canBe_84 : decode cX7_canBe 84 = .ok (.getfield 22, 3) := by decide +kernel
theorem dX7_canBe_87 : decode cX7_canBe 87 = .ok (.iload 5, 2) := by decide +kernel
theorem dX7_canBe_89 : decode cX7_canBe 89 = .ok (.iaload, 1) := by decide +kernel
theorem dX7_canBe_90 : decode cX7_canBe 90 = .ok (.invokestatic 152, 3) := by decide +kernel
theorem dX7_canBe_93 : decode cX7_canBe 93 = .ok (.ifCond .ne 5, 3) := by decide +kernel
theorem dX7_canBe_96 : decode cX7_canBe 96 = .ok (.iconst 0, 1) := by decide +kernel
theorem dX7_canBe_97 : decode cX7_canBe 97 = .ok (.ireturn, 1) := by decide +kernel
theorem dX7_canBe_98 : decode cX7_canBe 98 = .ok (.iinc 5 1, 3) := by decide +kernel
theorem dX7_canBe_101 : decode cX7_canBe 101 = .ok (.goto (-40), 3) := by decide +kernel
theorem dX7_canBe_104 : decode cX7_canBe 104 = .ok (.iload_n 2, 1) := by decide +kernel
theorem dX7_canBe_105 : decode cX7_canBe 105 = .ok (.iconst 1, 1) := by decide +kernel
theorem dX7_canBe_106 : decode cX7_canBe 106 = .ok (.iload 4, 2) := by decide +kernel
theorem dX7_canBe_108 : decode cX7_canBe 108 = .ok (.ishl, 1) := by decide +kernel
theorem dX7_canBe_109 : decode cX7_canBe 109 = .ok (.ior, 1) := by decide +kernel
theorem dX7_canBe_110 : decode cX7_canBe 110 = .ok (.istore_n 2, 1) := by decide +kernel
theorem dX7_canBe_111 : decode cX7_canBe 111 = .ok (.iinc 3 1, 3) := by decide +kernel
theorem dX7_canBe_114 : decode cX7_canBe 114 = .ok (.goto (-108), 3) := by decide +kernel
theorem dX7_canBe_117 : decode cX7_canBe 117 = .ok (.iconst 1, 1) := by decide +kernel
theorem dX7_canBe_118 : decode cX7_canBe 118 = .ok (.ireturn, 1) := by decide +kernel
theorem dX7_turns_0 : decode cX7_turns 0 = .ok (.aload_n 0, 1) := by decide +kernel
theorem dX7_turns_1 : decode cX7_turns 1 = .ok (.getfield 95, 3) := by decide +kernel
theorem dX7_turns_4 : decode cX7_turns 4 = .ok (.iconst 2, 1) := by decide +kernel
theorem dX7_turns_5 : decode cX7_turns 5 = .ok (.isub, 1) := by decide +kernel
theorem dX7_turns_6 : decode cX7_turns 6 = .ok (.istore_n 1, 1) := by decide +kernel
theorem dX7_turns_7 : decode cX7_turns 7 = .ok (.iload_n 1, 1) := by decide +kernel
theorem dX7_turns_8 : decode cX7_turns 8 = .ok (.ifCond .lt 26, 3) := by decide +kernel
theorem dX7_turns_11 : decode cX7_turns 11 = .ok (.aload_n 0, 1) := by decide +kernel
theorem dX7_turns_12 : decode cX7_turns 12 = .ok (.getfield 56, 3) := by decide +kernel
theorem dX7_turns_15 : decode cX7_turns 15 = .ok (.iload_n 1, 1) := by decide +kernel
theorem dX7_turns_16 : decode cX7_turns 16 = .ok (.iaload, 1) := by decide +kernel
theorem dX7_turns_17 : decode cX7_turns 17 = .ok (.aload_n 0, 1) := by decide +kernel
theorem dX7_turns_18 : decode cX7_turns 18 = .ok (.getfield 56, 3) := by decide +kernel
theorem dX7_turns_21 : decode cX7_turns 21 = .ok (.iload_n 1, 1) := by decide +kernel
theorem dX7_turns_22 : decode cX7_turns 22 = .ok (.iconst 1, 1) := by decide +kernel
theorem dX7_turns_23 : decode cX7_turns 23 = .ok (.iadd, 1) := by decide +kernel
theorem dX7_turns_24 : decode cX7_turns 24 = .ok (.iaload, 1) := by decide +kernel
theorem dX7_turns_25 : decode cX7_turns 25 = .ok (.if_icmp .le 9, 3) := by decide +kernel
theorem dX7_turns_28 : decode cX7_turns 28 = .ok (.iinc 1 (-1), 3) := by decide +kernel
theorem dX7_turns_31 : decode cX7_turns 31 = .ok (.goto (-24), 3) := by decide +kernel
theorem dX7_turns_34 : decode cX7_turns 34 = .ok (.iload_n 1, 1) := by decide +kernel
theorem dX7_turns_35 : decode cX7_turns 35 = .ok (.ifCond .ge 5, 3) := by decide +kernel
theorem dX7_turns_38 : decode cX7_turns 38 = .ok (.iconst 0, 1) := by decide +kernel
theorem dX7_turns_39 : decode cX7_turns 39 = .ok (.ireturn, 1) := by decide +kernel
theorem dX7_turns_40 : decode cX7_turns 40 = .ok (.aload_n 0, 1) := by decide +kernel
theorem dX7_turns_41 : decode cX7_turns 41 = .ok (.getfield 95, 3) := by decide +kernel
theorem dX7_turns_44 : decode cX7_turns 44 = .ok (.iconst 1, 1) := by decide +kernel
theorem dX7_turns_45 : decode cX7_turns 45 = .ok (.isub, 1) := by decide +kernel
theorem dX7_turns_46 : decode cX7_turns 46 = .ok (.istore_n 2, 1) := by decide +kernel
theorem dX7_turns_47 : decode cX7_turns 47 = .ok (.aload_n 0, 1) := by decide +kernel
theorem dX7_turns_48 : decode cX7_turns 48 = .ok (.getfield 56, 3) := by decide +kernel
theorem dX7_turns_51 : decode cX7_turns 51 = .ok (.iload_n 2, 1) := by decide +kernel
theorem dX7_turns_52 : decode cX7_turns 52 = .ok (.iaload, 1) := by decide +kernel
theorem dX7_turns_53 : decode cX7_turns 53 = .ok (.aload_n 0, 1) := by decide +kernel
theorem dX7_turns_54 : decode cX7_turns 54 = .ok (.getfield 56, 3) := by decide +kernel
theorem dX7_turns_57 : decode cX7_turns 57 = .ok (.iload_n 1, 1) := by decide +kernel
theorem dX7_turns_58 : decode cX7_turns 58 = .ok (.iaload, 1) := by decide +kernel
theorem dX7_turns_59 : decode cX7_turns 59 = .ok (.if_icmp .ge 9, 3) := by decide +kernel
theorem dX7_turns_62 : decode cX7_turns 62 = .ok (.iinc 2 (-1), 3) := by decide +kernel
theorem dX7_turns_65 : decode cX7_turns 65 = .ok (.goto (-18), 3) := by decide +kernel
theorem dX7_turns_68 : decode cX7_turns 68 = .ok (.aload_n 0, 1) := by decide +kernel
theorem dX7_turns_69 : decode cX7_turns 69 = .ok (.getfield 56, 3) := by decide +kernel
theorem dX7_turns_72 : decode cX7_turns 72 = .ok (.iload_n 1, 1) := by decide +kernel
theorem dX7_turns_73 : decode cX7_turns 73 = .ok (.iaload, 1) := by decide +kernel
theorem dX7_turns_74 : decode cX7_turns 74 = .ok (.istore_n 3, 1) := by decide +kernel
theorem dX7_turns_75 : decode cX7_turns 75 = .ok (.aload_n 0, 1) := by decide +kernel
theorem dX7_turns_76 : decode cX7_turns 76 = .ok (.getfield 56, 3) := by decide +kernel
theorem dX7_turns_79 : decode cX7_turns 79 = .ok (.iload_n 1, 1) := by decide +kernel
theorem dX7_turns_80 : decode cX7_turns 80 = .ok (.aload_n 0, 1) := by decide +kernel
theorem dX7_turns_81 : decode cX7_turns 81 = .ok (.getfield 56, 3) := by decide +kernel
theorem dX7_turns_84 : decode cX7_turns 84 = .ok (.iload_n 2, 1) := by decide +kernel
theorem dX7_turns_85 : decode cX7_turns 85 = .ok (.iaload, 1) := by decide +kernel
theorem dX7_turns_86 : decode cX7_turns 86 = .ok (.iastore, 1) := by decide +kernel
theorem dX7_turns_87 : decode cX7_turns 87 = .ok (.aload_n 0, 1) := by decide +kernel
theorem dX7_turns_88 : decode cX7_turns 88 = .ok (.getfield 56, 3) := by decide +kernel
theorem dX7_turns_91 : decode cX7_turns 91 = .ok (.iload_n 2, 1) := by decide +kernel
theorem dX7_turns_92 : decode cX7_turns 92 = .ok (.iload_n 3, 1) := by decide +kernel
theorem dX7_turns_93 : decode cX7_turns 93 = .ok (.iastore, 1) := by decide +kernel
theorem dX7_turns_94 : decode cX7_turns 94 = .ok (.iload_n 1, 1) := by decide +kernel
theorem dX7_turns_95 : decode cX7_turns 95 = .ok (.iconst 1, 1) := by decide +kernel
theorem dX7_turns_96 : decode cX7_turns 96 = .ok (.iadd, 1) := by decide +kernel
theorem dX7_turns_97 : decode cX7_turns 97 = .ok (.istore 4, 2) := by decide +kernel
theorem dX7_turns_99 : decode cX7_turns 99 = .ok (.aload_n 0, 1) := by decide +kernel
theorem dX7_turns_100 : decode cX7_turns 100 = .ok (.getfield 95, 3) := by decide +kernel
theorem dX7_turns_103 : decode cX7_turns 103 = .ok (.iconst 1, 1) := by decide +kernel
theorem dX7_turns_104 : decode cX7_turns 104 = .ok (.isub, 1) := by decide +kernel
theorem dX7_turns_105 : decode cX7_turns 105 = .ok (.istore 5, 2) := by decide +kernel
theorem dX7_turns_107 : decode cX7_turns 107 = .ok (.iload 4, 2) := by decide +kernel
theorem dX7_turns_109 : decode cX7_turns 109 = .ok (.iload 5, 2) := by decide +kernel
theorem dX7_turns_111 : decode cX7_turns 111 = .ok (.if_icmp .ge 42, 3) := by decide +kernel
theorem dX7_turns_114 : decode cX7_turns 114 = .ok (.aload_n 0, 1) := by decide +kernel
theorem dX7_turns_115 : decode cX7_turns 115 = .ok (.getfield 56, 3) := by decide +kernel
theorem dX7_turns_118 : decode cX7_turns 118 = .ok (.iload 4, 2) := by decide +kernel
theorem dX7_turns_120 : decode cX7_turns 120 = .ok (.iaload, 1) := by decide +kernel
theorem dX7_turns_121 : decode cX7_turns 121 = .ok (.istore_n 3, 1) := by decide +kernel
theorem dX7_turns_122 : decode cX7_turns 122 = .ok (.aload_n 0, 1) := by decide +kernel
theorem dX7_turns_123 : decode cX7_turns 123 = .ok (.getfield 56, 3) := by decide +kernel
theorem dX7_turns_126 : decode cX7_turns 126 = .ok (.iload 4, 2) := by decide +kernel
theorem dX7_turns_128 : decode cX7_turns 128 = .ok (.aload_n 0, 1) := by decide +kernel
theorem dX7_turns_129 : decode cX7_turns 129 = .ok (.getfield 56, 3) := by decide +kernel
theorem dX7_turns_132 : decode cX7_turns 132 = .ok (.iload 5, 2) := by decide +kernel
theorem dX7_turns_134 : decode cX7_turns 134 = .ok (.iaload, 1) := by decide +kernel
theorem dX7_turns_135 : decode cX7_turns 135 = .ok (.iastore, 1) := by decide +kernel
theorem dX7_turns_136 : decode cX7_turns 136 = .ok (.aload_n 0, 1) := by decide +kernel
theorem dX7_turns_137 : decode cX7_turns 137 = .ok (.getfield 56, 3) := by decide +kernel
theorem dX7_turns_140 : decode cX7_turns 140 = .ok (.iload 5, 2) := by decide +kernel
theorem dX7_turns_142 : decode cX7_turns 142 = .ok (.iload_n 3, 1) := by decide +kernel
theorem dX7_turns_143 : decode cX7_turns 143 = .ok (.iastore, 1) := by decide +kernel
theorem dX7_turns_144 : decode cX7_turns 144 = .ok (.iinc 4 1, 3) := by decide +kernel
theorem dX7_turns_147 : decode cX7_turns 147 = .ok (.iinc 5 (-1), 3) := by decide +kernel
theorem dX7_turns_150 : decode cX7_turns 150 = .ok (.goto (-43), 3) := by decide +kernel
theorem dX7_turns_153 : decode cX7_turns 153 = .ok (.iconst 1, 1) := by decide +kernel
theorem dX7_turns_154 : decode cX7_turns 154 = .ok (.ireturn, 1) := by decide +kernel
theorem dX7_plain_0 : decode cX7_plain 0 = .ok (.iconst 0, 1) := by decide +kernel
theorem dX7_plain_1 : decode cX7_plain 1 = .ok (.istore_n 1, 1) := by decide +kernel
theorem dX7_plain_2 : decode cX7_plain 2 = .ok (.iload_n 1, 1) := by decide +kernel
theorem dX7_plain_3 : decode cX7_plain 3 = .ok (.aload_n 0, 1) := by decide +kernel
theorem dX7_plain_4 : decode cX7_plain 4 = .ok (.getfield 95, 3) := by decide +kernel
theorem dX7_plain_7 : decode cX7_plain 7 = .ok (.if_icmp .ge 16, 3) := by decide +kernel
theorem dX7_plain_10 : decode cX7_plain 10 = .ok (.aload_n 0, 1) := by decide +kernel
theorem dX7_plain_11 : decode cX7_plain 11 = .ok (.getfield 56, 3) := by decide +kernel
theorem dX7_plain_14 : decode cX7_plain 14 = .ok (.iload_n 1, 1) := by decide +kernel
theorem dX7_plain_15 : decode cX7_plain 15 = .ok (.iload_n 1, 1) := by decide +kernel
theorem dX7_plain_16 : decode cX7_plain 16 = .ok (.iastore, 1) := by decide +kernel
theorem dX7_plain_17 : decode cX7_plain 17 = .ok (.iinc 1 1, 3) := by decide +kernel
theorem dX7_plain_20 : decode cX7_plain 20 = .ok (.goto (-18), 3) := by decide +kernel
theorem dX7_plain_23 : decode cX7_plain 23 = .ok (.return_, 1) := by decide +kernel
theorem dX7_works_0 : decode cX7_works 0 = .ok (.aload_n 0, 1) := by decide +kernel
theorem dX7_works_1 : decode cX7_works 1 = .ok (.getfield 102, 3) := by decide +kernel
theorem dX7_works_4 : decode cX7_works 4 = .ok (.ifCond .eq 4, 3) := by decide +kernel
theorem dX7_works_7 : decode cX7_works 7 = .ok (.return_, 1) := by decide +kernel
theorem dX7_works_8 : decode cX7_works 8 = .ok (.aload_n 0, 1) := by decide +kernel
theorem dX7_works_9 : decode cX7_works 9 = .ok (.iconst 1, 1) := by decide +kernel
theorem dX7_works_10 : decode cX7_works 10 = .ok (.putfield 102, 3) := by decide +kernel
theorem dX7_works_13 : decode cX7_works 13 = .ok (.aload_n 0, 1) := by decide +kernel
theorem dX7_works_14 : decode cX7_works 14 = .ok (.invokevirtual 149, 3) := by decide +kernel
theorem dX7_works_17 : decode cX7_works 17 = .ok (.aload_n 0, 1) := by decide +kernel
theorem dX7_works_18 : decode cX7_works 18 = .ok (.ldc 159, 2) := by decide +kernel
theorem dX7_works_20 : decode cX7_works 20 = .ok (.putfield 160, 3) := by decide +kernel
theorem dX7_works_23 : decode cX7_works 23 = .ok (.aload_n 0, 1) := by decide +kernel
theorem dX7_works_24 : decode cX7_works 24 = .ok (.iconst 0, 1) := by decide +kernel
theorem dX7_works_25 : decode cX7_works 25 = .ok (.putfield 163, 3) := by decide +kernel
theorem dX7_works_28 : decode cX7_works 28 = .ok (.aload_n 0, 1) := by decide +kernel
theorem dX7_works_29 : decode cX7_works 29 = .ok (.iconst 0, 1) := by decide +kernel
theorem dX7_works_30 : decode cX7_works 30 = .ok (.putfield 166, 3) := by decide +kernel
theorem dX7_works_33 : decode cX7_works 33 = .ok (.aload_n 0, 1) := by decide +kernel
theorem dX7_works_34 : decode cX7_works 34 = .ok (.lconst 0, 1) := by decide +kernel
theorem dX7_works_35 : decode cX7_works 35 = .ok (.putfield 169, 3) := by decide +kernel
theorem dX7_works_38 : decode cX7_works 38 = .ok (.aload_n 0, 1) := by decide +kernel
theorem dX7_works_39 : decode cX7_works 39 = .ok (.iconst (-1), 1) := by decide +kernel
theorem dX7_works_40 : decode cX7_works 40 = .ok (.putfield 173, 3) := by decide +kernel
theorem dX7_works_43 : decode cX7_works 43 = .ok (.iconst 0, 1) := by decide +kernel
theorem dX7_works_44 : decode cX7_works 44 = .ok (.istore_n 1, 1) := by decide +kernel
theorem dX7_works_45 : decode cX7_works 45 = .ok (.iload_n 1, 1) := by decide +kernel
theorem dX7_works_46 : decode cX7_works 46 = .ok (.sipush 1000, 3) := by decide +kernel
theorem dX7_works_49 : decode cX7_works 49 = .ok (.if_icmp .ge 16, 3) := by decide +kernel
theorem dX7_works_52 : decode cX7_works 52 = .ok (.aload_n 0, 1) := by decide +kernel
theorem dX7_works_53 : decode cX7_works 53 = .ok (.getfield 59, 3) := by decide +kernel
theorem dX7_works_56 : decode cX7_works 56 = .ok (.iload_n 1, 1) := by decide +kernel
theorem dX7_works_57 : decode cX7_works 57 = .ok (.iconst 0, 1) := by decide +kernel
theorem dX7_works_58 : decode cX7_works 58 = .ok (.iastore, 1) := by decide +kernel
theorem dX7_works_59 : decode cX7_works 59 = .ok (.iinc 1 1, 3) := by decide +kernel
theorem dX7_works_62 : decode cX7_works 62 = .ok (.goto (-17), 3) := by decide +kernel
theorem dX7_works_65 : decode cX7_works 65 = .ok (.aload_n 0, 1) := by decide +kernel
theorem dX7_works_66 : decode cX7_works 66 = .ok (.invokevirtual 176, 3) := by decide +kernel
theorem dX7_works_69 : decode cX7_works 69 = .ok (.iconst 1, 1) := by decide +kernel
theorem dX7_works_70 : decode cX7_works 70 = .ok (.istore_n 1, 1) := by decide +kernel
theorem dX7_works_71 : decode cX7_works 71 = .ok (.iload_n 1, 1) := by decide +kernel
theorem dX7_works_72 : decode cX7_works 72 = .ok (.ifCond .eq 22, 3) := by decide +kernel
theorem dX7_works_75 : decode cX7_works 75 = .ok (.aload_n 0, 1) := by decide +kernel
theorem dX7_works_76 : decode cX7_works 76 = .ok (.invokevirtual 179, 3) := by decide +kernel
theorem dX7_works_79 : decode cX7_works 79 = .ok (.ifCond .eq 7, 3) := by decide +kernel
theorem dX7_works_82 : decode cX7_works 82 = .ok (.aload_n 0, 1) := by decide +kernel
theorem dX7_works_83 : decode cX7_works 83 = .ok (.invokevirtual 183, 3) := by decide +kernel
theorem dX7_works_86 : decode cX7_works 86 = .ok (.aload_n 0, 1) := by decide +kernel
theorem dX7_works_87 : decode cX7_works 87 = .ok (.invokevirtual 186, 3) := by decide +kernel
theorem dX7_works_90 : decode cX7_works 90 = .ok (.istore_n 1, 1) := by decide +kernel
theorem dX7_works_91 : decode cX7_works 91 = .ok (.goto (-20), 3) := by decide +kernel
theorem dX7_works_94 : decode cX7_works 94 = .ok (.return_, 1) := by decide +kernel
theorem dX7_counts_0 : decode cX7_counts 0 = .ok (.iconst 0, 1) := by decide +kernel
theorem dX7_counts_1 : decode cX7_counts 1 = .ok (.istore_n 1, 1) := by decide +kernel
theorem dX7_counts_2 : decode cX7_counts 2 = .ok (.iconst 0, 1) := by decide +kernel
theorem dX7_counts_3 : decode cX7_counts 3 = .ok (.istore_n 2, 1) := by decide +kernel
theorem dX7_counts_4 : decode cX7_counts 4 = .ok (.iconst 0, 1) := by decide +kernel
theorem dX7_counts_5 : decode cX7_counts 5 = .ok (.istore_n 3, 1) := by decide +kernel
theorem dX7_counts_6 : decode cX7_counts 6 = .ok (.iload_n 3, 1) := by decide +kernel
theorem dX7_counts_7 : decode cX7_counts 7 = .ok (.bipush 10, 2) := by decide +kernel
theorem dX7_counts_9 : decode cX7_counts 9 = .ok (.if_icmp .ge 56, 3) := by decide +kernel
theorem dX7_counts_12 : decode cX7_counts 12 = .ok (.aload_n 0, 1) := by decide +kernel
theorem dX7_counts_13 : decode cX7_counts 13 = .ok (.getfield 16, 3) := by decide +kernel
theorem dX7_counts_16 : decode cX7_counts 16 = .ok (.iload_n 3, 1) := by decide +kernel
theorem dX7_counts_17 : decode cX7_counts 17 = .ok (.iaload, 1) := by decide +kernel
theorem dX7_counts_18 : decode cX7_counts 18 = .ok (.ifCond .ne 7, 3) := by decide +kernel
theorem dX7_counts_21 : decode cX7_counts 21 = .ok (.iconst 0, 1) := by decide +kernel
theorem dX7_counts_22 : decode cX7_counts 22 = .ok (.goto 8, 3) := by decide +kernel
theorem dX7_counts_25 : decode cX7_counts 25 = .ok (.aload_n 0, 1) := by decide +kernel
theorem dX7_counts_26 : decode cX7_counts 26 = .ok (.iload_n 3, 1) := by decide +kernel
theorem dX7_counts_27 : decode cX7_counts 27 = .ok (.invokevirtual 156, 3) := by decide +kernel
theorem dX7_counts_30 : decode cX7_counts 30 = .ok (.istore 4, 2) := by decide +kernel
theorem dX7_counts_32 : decode cX7_counts 32 = .ok (.iload_n 1, 1) := by decide +kernel
theorem dX7_counts_33 : decode cX7_counts 33 = .ok (.aload_n 0, 1) := by decide +kernel
theorem dX7_counts_34 : decode cX7_counts 34 = .ok (.getfield 16, 3) := by decide +kernel
theorem dX7_counts_37 : decode cX7_counts 37 = .ok (.iload_n 3, 1) := by decide +kernel
theorem dX7_counts_38 : decode cX7_counts 38 = .ok (.iaload, 1) := by decide +kernel
theorem dX7_counts_39 : decode cX7_counts 39 = .ok (.iload 4, 2) := by decide +kernel
theorem dX7_counts_41 : decode cX7_counts 41 = .ok (.imul, 1) := by decide +kernel
theorem dX7_counts_42 : decode cX7_counts 42 = .ok (.iadd, 1) := by decide +kernel
theorem dX7_counts_43 : decode cX7_counts 43 = .ok (.istore_n 1, 1) := by decide +kernel
theorem dX7_counts_44 : decode cX7_counts 44 = .ok (.iload_n 2, 1) := by decide +kernel
theorem dX7_counts_45 : decode cX7_counts 45 = .ok (.iload 4, 2) := by decide +kernel
theorem dX7_counts_47 : decode cX7_counts 47 = .ok (.ifCond .le 9, 3) := by decide +kernel
theorem dX7_counts_50 : decode cX7_counts 50 = .ok (.iconst 1, 1) := by decide +kernel
theorem dX7_counts_51 : decode cX7_counts 51 = .ok (.iload_n 3, 1) := by decide +kernel
theorem dX7_counts_52 : decode cX7_counts 52 = .ok (.ishl, 1) := by decide +kernel
theorem dX7_counts_53 : decode cX7_counts 53 = .ok (.goto 4, 3) := by decide +kernel
theorem dX7_counts_56 : decode cX7_counts 56 = .ok (.iconst 0, 1) := by decide +kernel
theorem dX7_counts_57 : decode cX7_counts 57 = .ok (.ior, 1) := by decide +kernel
theorem dX7_counts_58 : decode cX7_counts 58 = .ok (.istore_n 2, 1) := by decide +kernel
theorem dX7_counts_59 : decode cX7_counts 59 = .ok (.iinc 3 1, 3) := by decide +kernel
theorem dX7_counts_62 : decode cX7_counts 62 = .ok (.goto (-56), 3) := by decide +kernel
theorem dX7_counts_65 : decode cX7_counts 65 = .ok (.aload_n 0, 1) := by decide +kernel
theorem dX7_counts_66 : decode cX7_counts 66 = .ok (.dup, 1) := by decide +kernel
theorem dX7_counts_67 : decode cX7_counts 67 = .ok (.getfield 166, 3) := by decide +kernel
theorem dX7_counts_70 : decode cX7_counts 70 = .ok (.iconst 1, 1) := by decide +kernel
theorem dX7_counts_71 : decode cX7_counts 71 = .ok (.iadd, 1) := by decide +kernel
theorem dX7_counts_72 : decode cX7_counts 72 = .ok (.putfield 166, 3) := by decide +kernel
theorem dX7_counts_75 : decode cX7_counts 75 = .ok (.aload_n 0, 1) := by decide +kernel
theorem dX7_counts_76 : decode cX7_counts 76 = .ok (.dup, 1) := by decide +kernel
theorem dX7_counts_77 : decode cX7_counts 77 = .ok (.getfield 169, 3) := by decide +kernel
theorem dX7_counts_80 : decode cX7_counts 80 = .ok (.iload_n 1, 1) := by decide +kernel
theorem dX7_counts_81 : decode cX7_counts 81 = .ok (.i2l, 1) := by decide +kernel
theorem dX7_counts_82 : decode cX7_counts 82 = .ok (.ladd, 1) := by decide +kernel
theorem dX7_counts_83 : decode cX7_counts 83 = .ok (.putfield 169, 3) := by decide +kernel
theorem dX7_counts_86 : decode cX7_counts 86 = .ok (.aload_n 0, 1) := by decide +kernel
theorem dX7_counts_87 : decode cX7_counts 87 = .ok (.getfield 59, 3) := by decide +kernel
theorem dX7_counts_90 : decode cX7_counts 90 = .ok (.iload_n 1, 1) := by decide +kernel
theorem dX7_counts_91 : decode cX7_counts 91 = .ok (.dup2, 1) := by decide +kernel
theorem dX7_counts_92 : decode cX7_counts 92 = .ok (.iaload, 1) := by decide +kernel
theorem dX7_counts_93 : decode cX7_counts 93 = .ok (.iconst 1, 1) := by decide +kernel
theorem dX7_counts_94 : decode cX7_counts 94 = .ok (.iadd, 1) := by decide +kernel
theorem dX7_counts_95 : decode cX7_counts 95 = .ok (.iastore, 1) := by decide +kernel
theorem dX7_counts_96 : decode cX7_counts 96 = .ok (.aload_n 0, 1) := by decide +kernel
theorem dX7_counts_97 : decode cX7_counts 97 = .ok (.getfield 173, 3) := by decide +kernel
theorem dX7_counts_100 : decode cX7_counts 100 = .ok (.iconst (-1), 1) := by decide +kernel
theorem dX7_counts_101 : decode cX7_counts 101 = .ok (.if_icmp .eq 39, 3) := by decide +kernel
theorem dX7_counts_104 : decode cX7_counts 104 = .ok (.iload_n 2, 1) := by decide +kernel
theorem dX7_counts_105 : decode cX7_counts 105 = .ok (.invokestatic 189, 3) := by decide +kernel
theorem dX7_counts_108 : decode cX7_counts 108 = .ok (.aload_n 0, 1) := by decide +kernel
theorem dX7_counts_109 : decode cX7_counts 109 = .ok (.getfield 173, 3) := by decide +kernel
theorem dX7_counts_112 : decode cX7_counts 112 = .ok (.invokestatic 189, 3) := by decide +kernel
theorem dX7_counts_115 : decode cX7_counts 115 = .ok (.if_icmp .lt 25, 3) := by decide +kernel
theorem dX7_counts_118 : decode cX7_counts 118 = .ok (.iload_n 2, 1) := by decide +kernel
theorem dX7_counts_119 : decode cX7_counts 119 = .ok (.invokestatic 189, 3) := by decide +kernel
theorem dX7_counts_122 : decode cX7_counts 122 = .ok (.aload_n 0, 1) := by decide +kernel
theorem dX7_counts_123 : decode cX7_counts 123 = .ok (.getfield 173, 3) := by decide +kernel
theorem dX7_counts_126 : decode cX7_counts 126 = .ok (.invokestatic 189, 3) := by decide +kernel
theorem dX7_counts_129 : decode cX7_counts 129 = .ok (.if_icmp .ne 16, 3) := by decide +kernel
theorem dX7_counts_132 : decode cX7_counts 132 = .ok (.iload_n 2, 1) := by decide +kernel
theorem dX7_counts_133 : decode cX7_counts 133 = .ok (.aload_n 0, 1) := by decide +kernel
theorem dX7_counts_134 : decode cX7_counts 134 = .ok (.getfield 173, 3) := by decide +kernel
theorem dX7_counts_137 : decode cX7_counts 137 = .ok (.if_icmp .ge 8, 3) := by decide +kernel
theorem dX7_counts_140 : decode cX7_counts 140 = .ok (.aload_n 0, 1) := by decide +kernel
theorem dX7_counts_141 : decode cX7_counts 141 = .ok (.iload_n 2, 1) := by decide +kernel
theorem dX7_counts_142 : decode cX7_counts 142 = .ok (.putfield 173, 3) := by decide +kernel
theorem dX7_counts_145 : decode cX7_counts 145 = .ok (.iload_n 1, 1) := by decide +kernel
theorem dX7_counts_146 : decode cX7_counts 146 = .ok (.aload_n 0, 1) := by decide +kernel
theorem dX7_counts_147 : decode cX7_counts 147 = .ok (.getfield 160, 3) := by decide +kernel
theorem dX7_counts_150 : decode cX7_counts 150 = .ok (.if_icmp .ge 57, 3) := by decide +kernel
theorem dX7_counts_153 : decode cX7_counts 153 = .ok (.aload_n 0, 1) := by decide +kernel
theorem dX7_counts_154 : decode cX7_counts 154 = .ok (.iload_n 1, 1) := by decide +kernel
theorem dX7_counts_155 : decode cX7_counts 155 = .ok (.putfield 160, 3) := by decide +kernel
theorem dX7_counts_158 : decode cX7_counts 158 = .ok (.aload_n 0, 1) := by decide +kernel
theorem dX7_counts_159 : decode cX7_counts 159 = .ok (.iconst 0, 1) := by decide +kernel
theorem dX7_counts_160 : decode cX7_counts 160 = .ok (.putfield 163, 3) := by decide +kernel
theorem dX7_counts_163 : decode cX7_counts 163 = .ok (.iconst 0, 1) := by decide +kernel
theorem dX7_counts_164 : decode cX7_counts 164 = .ok (.istore_n 3, 1) := by decide +kernel
theorem dX7_counts_165 : decode cX7_counts 165 = .ok (.iload_n 3, 1) := by decide +kernel
theorem dX7_counts_166 : decode cX7_counts 166 = .ok (.aload_n 0, 1) := by decide +kernel
theorem dX7_counts_167 : decode cX7_counts 167 = .ok (.getfield 95, 3) := by decide +kernel
theorem dX7_counts_170 : decode cX7_counts 170 = .ok (.if_icmp .ge 37, 3) := by decide +kernel
theorem dX7_counts_173 : decode cX7_counts 173 = .ok (.aload_n 0, 1) := by decide +kernel
theorem dX7_counts_174 : decode cX7_counts 174 = .ok (.getfield 62, 3) := by decide +kernel
theorem dX7_counts_177 : decode cX7_counts 177 = .ok (.iload_n 3, 1) := by decide +kernel
theorem dX7_counts_178 : decode cX7_counts 178 = .ok (.aload_n 0, 1) := by decide +kernel
theorem dX7_counts_179 : decode cX7_counts 179 = .ok (.getfield 56, 3) := by decide +kernel
theorem dX7_counts_182 : decode cX7_counts 182 = .ok (.iload_n 3, 1) := by decide +kernel
theorem dX7_counts_183 : decode cX7_counts 183 = .ok (.iaload, 1) := by decide +kernel
theorem dX7_counts_184 : decode cX7_counts 184 = .ok (.iastore, 1) := by decide +kernel
theorem dX7_counts_185 : decode cX7_counts 185 = .ok (.aload_n 0, 1) := by decide +kernel
theorem dX7_counts_186 : decode cX7_counts 186 = .ok (.getfield 65, 3) := by decide +kernel
theorem dX7_counts_189 : decode cX7_counts 189 = .ok (.iload_n 3, 1) := by decide +kernel
theorem dX7_counts_190 : decode cX7_counts 190 = .ok (.sipush 255, 3) := by decide +kernel
theorem dX7_counts_193 : decode cX7_counts 193 = .ok (.iastore, 1) := by decide +kernel
theorem dX7_counts_194 : decode cX7_counts 194 = .ok (.aload_n 0, 1) := by decide +kernel
theorem dX7_counts_195 : decode cX7_counts 195 = .ok (.getfield 68, 3) := by decide +kernel
theorem dX7_counts_198 : decode cX7_counts 198 = .ok (.iload_n 3, 1) := by decide +kernel
theorem dX7_counts_199 : decode cX7_counts 199 = .ok (.iconst 0, 1) := by decide +kernel
theorem dX7_counts_200 : decode cX7_counts 200 = .ok (.iastore, 1) := by decide +kernel
theorem dX7_counts_201 : decode cX7_counts 201 = .ok (.iinc 3 1, 3) := by decide +kernel
theorem dX7_counts_204 : decode cX7_counts 204 = .ok (.goto (-39), 3) := by decide +kernel
theorem dX7_counts_207 : decode cX7_counts 207 = .ok (.iload_n 1, 1) := by decide +kernel
theorem dX7_counts_208 : decode cX7_counts 208 = .ok (.aload_n 0, 1) := by decide +kernel
theorem dX7_counts_209 : decode cX7_counts 209 = .ok (.getfield 160, 3) := by decide +kernel
theorem dX7_counts_212 : decode cX7_counts 212 = .ok (.if_icmp .ne 80, 3) := by decide +kernel
theorem dX7_counts_215 : decode cX7_counts 215 = .ok (.aload_n 0, 1) := by decide +kernel
theorem dX7_counts_216 : decode cX7_counts 216 = .ok (.dup, 1) := by decide +kernel
theorem dX7_counts_217 : decode cX7_counts 217 = .ok (.getfield 163, 3) := by decide +kernel
theorem dX7_counts_220 : decode cX7_counts 220 = .ok (.iconst 1, 1) := by decide +kernel
theorem dX7_counts_221 : decode cX7_counts 221 = .ok (.iadd, 1) := by decide +kernel
theorem dX7_counts_222 : decode cX7_counts 222 = .ok (.putfield 163, 3) := by decide +kernel
theorem dX7_counts_225 : decode cX7_counts 225 = .ok (.iconst 0, 1) := by decide +kernel
theorem dX7_counts_226 : decode cX7_counts 226 = .ok (.istore_n 3, 1) := by decide +kernel
theorem dX7_counts_227 : decode cX7_counts 227 = .ok (.iconst 0, 1) := by decide +kernel
theorem dX7_counts_228 : decode cX7_counts 228 = .ok (.istore 4, 2) := by decide +kernel
theorem dX7_counts_230 : decode cX7_counts 230 = .ok (.iload 4, 2) := by decide +kernel
theorem dX7_counts_232 : decode cX7_counts 232 = .ok (.aload_n 0, 1) := by decide +kernel
theorem dX7_counts_233 : decode cX7_counts 233 = .ok (.getfield 95, 3) := by decide +kernel
theorem dX7_counts_236 : decode cX7_counts 236 = .ok (.if_icmp .ge 56, 3) := by decide +kernel
theorem dX7_counts_239 : decode cX7_counts 239 = .ok (.aload_n 0, 1) := by decide +kernel
theorem dX7_counts_240 : decode cX7_counts 240 = .ok (.getfield 65, 3) := by decide +kernel
theorem dX7_counts_243 : decode cX7_counts 243 = .ok (.aload_n 0, 1) := by decide +kernel
theorem dX7_counts_244 : decode cX7_counts 244 = .ok (.getfield 56, 3) := by decide +kernel
theorem dX7_counts_247 : decode cX7_counts 247 = .ok (.iload 4, 2) := by decide +kernel
theorem dX7_counts_249 : decode cX7_counts 249 = .ok (.iaload, 1) := by decide +kernel
theorem dX7_counts_250 : decode cX7_counts 250 = .ok (.dup2, 1) := by decide +kernel
theorem dX7_counts_251 : decode cX7_counts 251 = .ok (.iaload, 1) := by decide +kernel
theorem dX7_counts_252 : decode cX7_counts 252 = .ok (.iload_n 3, 1) := by decide +kernel
theorem dX7_counts_253 : decode cX7_counts 253 = .ok (.iand, 1) := by decide +kernel
theorem dX7_counts_254 : decode cX7_counts 254 = .ok (.iastore, 1) := by decide +kernel
theorem dX7_counts_255 : decode cX7_counts 255 = .ok (.aload_n 0, 1) := by decide +kernel
theorem dX7_counts_256 : decode cX7_counts 256 = .ok (.getfield 68, 3) := by decide +kernel
theorem dX7_counts_259 : decode cX7_counts 259 = .ok (.aload_n 0, 1) := by decide +kernel
theorem dX7_counts_260 : decode cX7_counts 260 = .ok (.getfield 56, 3) := by decide +kernel
theorem dX7_counts_263 : decode cX7_counts 263 = .ok (.iload 4, 2) := by decide +kernel
theorem dX7_counts_265 : decode cX7_counts 265 = .ok (.iaload, 1) := by decide +kernel
theorem dX7_counts_266 : decode cX7_counts 266 = .ok (.dup2, 1) := by decide +kernel
theorem dX7_counts_267 : decode cX7_counts 267 = .ok (.iaload, 1) := by decide +kernel
theorem dX7_counts_268 : decode cX7_counts 268 = .ok (.iconst 1, 1) := by decide +kernel
theorem dX7_counts_269 : decode cX7_counts 269 = .ok (.iload 4, 2) := by decide +kernel
theorem dX7_counts_271 : decode cX7_counts 271 = .ok (.ishl, 1) := by decide +kernel
theorem dX7_counts_272 : decode cX7_counts 272 = .ok (.ior, 1) := by decide +kernel
theorem dX7_counts_273 : decode cX7_counts 273 = .ok (.iastore, 1) := by decide +kernel
theorem dX7_counts_274 : decode cX7_counts 274 = .ok (.iload_n 3, 1) := by decide +kernel
theorem dX7_counts_275 : decode cX7_counts 275 = .ok (.iconst 1, 1) := by decide +kernel
theorem dX7_counts_276 : decode cX7_counts 276 = .ok (.aload_n 0, 1) := by decide +kernel
theorem dX7_counts_277 : decode cX7_counts 277 = .ok (.getfield 56, 3) := by decide +kernel
theorem dX7_counts_280 : decode cX7_counts 280 = .ok (.iload 4, 2) := by decide +kernel
theorem dX7_counts_282 : decode cX7_counts 282 = .ok (.iaload, 1) := by decide +kernel
theorem dX7_counts_283 : decode cX7_counts 283 = .ok (.ishl, 1) := by decide +kernel
theorem dX7_counts_284 : decode cX7_counts 284 = .ok (.ior, 1) := by decide +kernel
theorem dX7_counts_285 : decode cX7_counts 285 = .ok (.istore_n 3, 1) := by decide +kernel
theorem dX7_counts_286 : decode cX7_counts 286 = .ok (.iinc 4 1, 3) := by decide +kernel
theorem dX7_counts_289 : decode cX7_counts 289 = .ok (.goto (-59), 3) := by decide +kernel
theorem dX7_counts_292 : decode cX7_counts 292 = .ok (.return_, 1) := by decide +kernel
theorem dX7_areAny_0 : decode cX7_areAny 0 = .ok (.aload_n 0, 1) := by decide +kernel
theorem dX7_areAny_1 : decode cX7_areAny 1 = .ok (.invokevirtual 192, 3) := by decide +kernel
theorem dX7_areAny_4 : decode cX7_areAny 4 = .ok (.aload_n 0, 1) := by decide +kernel
theorem dX7_areAny_5 : decode cX7_areAny 5 = .ok (.getfield 166, 3) := by decide +kernel
theorem dX7_areAny_8 : decode cX7_areAny 8 = .ok (.ifCond .le 7, 3) := by decide +kernel
theorem dX7_areAny_11 : decode cX7_areAny 11 = .ok (.iconst 1, 1) := by decide +kernel
theorem dX7_areAny_12 : decode cX7_areAny 12 = .ok (.goto 4, 3) := by decide +kernel
theorem dX7_areAny_15 : decode cX7_areAny 15 = .ok (.iconst 0, 1) := by decide +kernel
theorem dX7_areAny_16 : decode cX7_areAny 16 = .ok (.ireturn, 1) := by decide +kernel
theorem dX7_gaps_0 : decode cX7_gaps 0 = .ok (.iload_n 1, 1) := by decide +kernel
theorem dX7_gaps_1 : decode cX7_gaps 1 = .ok (.invokestatic 143, 3) := by decide +kernel
theorem dX7_gaps_4 : decode cX7_gaps 4 = .ok (.ifCond .eq 12, 3) := by decide +kernel
theorem dX7_gaps_7 : decode cX7_gaps 7 = .ok (.iload_n 2, 1) := by decide +kernel
theorem dX7_gaps_8 : decode cX7_gaps 8 = .ok (.iconst 0, 1) := by decide +kernel
theorem dX7_gaps_9 : decode cX7_gaps 9 = .ok (.iconst 1, 1) := by decide +kernel
theorem dX7_gaps_10 : decode cX7_gaps 10 = .ok (.invokestatic 98, 3) := by decide +kernel
theorem dX7_gaps_13 : decode cX7_gaps 13 = .ok (.ifCond .ne 6, 3) := by decide +kernel
theorem dX7_gaps_16 : decode cX7_gaps 16 = .ok (.bipush (-2), 2) := by decide +kernel
theorem dX7_gaps_18 : decode cX7_gaps 18 = .ok (.ireturn, 1) := by decide +kernel
theorem dX7_gaps_19 : decode cX7_gaps 19 = .ok (.aload_n 0, 1) := by decide +kernel
theorem dX7_gaps_20 : decode cX7_gaps 20 = .ok (.getfield 77, 3) := by decide +kernel
theorem dX7_gaps_23 : decode cX7_gaps 23 = .ok (.iload_n 1, 1) := by decide +kernel
theorem dX7_gaps_24 : decode cX7_gaps 24 = .ok (.baload, 1) := by decide +kernel
theorem dX7_gaps_25 : decode cX7_gaps 25 = .ok (.ifCond .ne 9, 3) := by decide +kernel
theorem dX7_gaps_28 : decode cX7_gaps 28 = .ok (.aload_n 0, 1) := by decide +kernel
theorem dX7_gaps_29 : decode cX7_gaps 29 = .ok (.iconst 1, 1) := by decide +kernel
theorem dX7_gaps_30 : decode cX7_gaps 30 = .ok (.invokevirtual 146, 3) := by decide +kernel
theorem dX7_gaps_33 : decode cX7_gaps 33 = .ok (.ireturn, 1) := by decide +kernel
theorem dX7_gaps_34 : decode cX7_gaps 34 = .ok (.aload_n 0, 1) := by decide +kernel
theorem dX7_gaps_35 : decode cX7_gaps 35 = .ok (.getfield 84, 3) := by decide +kernel
theorem dX7_gaps_38 : decode cX7_gaps 38 = .ok (.iload_n 1, 1) := by decide +kernel
theorem dX7_gaps_39 : decode cX7_gaps 39 = .ok (.iaload, 1) := by decide +kernel
theorem dX7_gaps_40 : decode cX7_gaps 40 = .ok (.aload_n 0, 1) := by decide +kernel
theorem dX7_gaps_41 : decode cX7_gaps 41 = .ok (.getfield 95, 3) := by decide +kernel
theorem dX7_gaps_44 : decode cX7_gaps 44 = .ok (.if_icmp .eq 6, 3) := by decide +kernel
theorem dX7_gaps_47 : decode cX7_gaps 47 = .ok (.bipush (-3), 2) := by decide +kernel
theorem dX7_gaps_49 : decode cX7_gaps 49 = .ok (.ireturn, 1) := by decide +kernel
theorem dX7_gaps_50 : decode cX7_gaps 50 = .ok (.iconst 0, 1) := by decide +kernel
theorem dX7_gaps_51 : decode cX7_gaps 51 = .ok (.istore_n 3, 1) := by decide +kernel
theorem dX7_gaps_52 : decode cX7_gaps 52 = .ok (.iconst 0, 1) := by decide +kernel
theorem dX7_gaps_53 : decode cX7_gaps 53 = .ok (.istore 4, 2) := by decide +kernel
theorem dX7_gaps_55 : decode cX7_gaps 55 = .ok (.iload 4, 2) := by decide +kernel
theorem dX7_gaps_57 : decode cX7_gaps 57 = .ok (.aload_n 0, 1) := by decide +kernel
theorem dX7_gaps_58 : decode cX7_gaps 58 = .ok (.getfield 95, 3) := by decide +kernel
theorem dX7_gaps_61 : decode cX7_gaps 61 = .ok (.if_icmp .ge 60, 3) := by decide +kernel
theorem dX7_gaps_64 : decode cX7_gaps 64 = .ok (.aload_n 0, 1) := by decide +kernel
theorem dX7_gaps_65 : decode cX7_gaps 65 = .ok (.getfield 87, 3) := by decide +kernel
theorem dX7_gaps_68 : decode cX7_gaps 68 = .ok (.bipush 40, 2) := by decide +kernel
theorem dX7_gaps_70 : decode cX7_gaps 70 = .ok (.iload_n 1, 1) := by decide +kernel
theorem dX7_gaps_71 : decode cX7_gaps 71 = .ok (.imul, 1) := by decide +kernel
theorem dX7_gaps_72 : decode cX7_gaps 72 = .ok (.iload 4, 2) := by decide +kernel
theorem dX7_gaps_74 : decode cX7_gaps 74 = .ok (.iadd, 1) := by decide +kernel
theorem dX7_gaps_75 : decode cX7_gaps 75 = .ok (.iaload, 1) := by decide +kernel
theorem dX7_gaps_76 : decode cX7_gaps 76 = .ok (.istore 5, 2) := by decide +kernel
theorem dX7_gaps_78 : decode cX7_gaps 78 = .ok (.aload_n 0, 1) := by decide +kernel
theorem dX7_gaps_79 : decode cX7_gaps 79 = .ok (.iload 5, 2) := by decide +kernel
theorem dX7_gaps_81 : decode cX7_gaps 81 = .ok (.invokevirtual 106, 3) := by decide +kernel
theorem dX7_gaps_84 : decode cX7_gaps 84 = .ok (.ifCond .eq 12, 3) := by decide +kernel
theorem dX7_gaps_87 : decode cX7_gaps 87 = .ok (.iload_n 3, 1) := by decide +kernel
theorem dX7_gaps_88 : decode cX7_gaps 88 = .ok (.iload 5, 2) := by decide +kernel
theorem dX7_gaps_90 : decode cX7_gaps 90 = .ok (.invokestatic 152, 3) := by decide +kernel
theorem dX7_gaps_93 : decode cX7_gaps 93 = .ok (.ifCond .eq 6, 3) := by decide +kernel
theorem dX7_gaps_96 : decode cX7_gaps 96 = .ok (.bipush (-3), 2) := by decide +kernel
theorem dX7_gaps_98 : decode cX7_gaps 98 = .ok (.ireturn, 1) := by decide +kernel
theorem dX7_gaps_99 : decode cX7_gaps 99 = .ok (.iload_n 3, 1) := by decide +kernel
theorem dX7_gaps_100 : decode cX7_gaps 100 = .ok (.iconst 1, 1) := by decide +kernel
theorem dX7_gaps_101 : decode cX7_gaps 101 = .ok (.iload 5, 2) := by decide +kernel
theorem dX7_gaps_103 : decode cX7_gaps 103 = .ok (.ishl, 1) := by decide +kernel
theorem dX7_gaps_104 : decode cX7_gaps 104 = .ok (.ior, 1) := by decide +kernel
theorem dX7_gaps_105 : decode cX7_gaps 105 = .ok (.istore_n 3, 1) := by decide +kernel
theorem dX7_gaps_106 : decode cX7_gaps 106 = .ok (.aload_n 0, 1) := by decide +kernel
theorem dX7_gaps_107 : decode cX7_gaps 107 = .ok (.getfield 56, 3) := by decide +kernel
theorem dX7_gaps_110 : decode cX7_gaps 110 = .ok (.iload 4, 2) := by decide +kernel
theorem dX7_gaps_112 : decode cX7_gaps 112 = .ok (.iload 5, 2) := by decide +kernel
theorem dX7_gaps_114 : decode cX7_gaps 114 = .ok (.iastore, 1) := by decide +kernel
theorem dX7_gaps_115 : decode cX7_gaps 115 = .ok (.iinc 4 1, 3) := by decide +kernel
theorem dX7_gaps_118 : decode cX7_gaps 118 = .ok (.goto (-63), 3) := by decide +kernel
theorem dX7_gaps_121 : decode cX7_gaps 121 = .ok (.aload_n 0, 1) := by decide +kernel
theorem dX7_gaps_122 : decode cX7_gaps 122 = .ok (.invokevirtual 149, 3) := by decide +kernel
theorem dX7_gaps_125 : decode cX7_gaps 125 = .ok (.iload_n 2, 1) := by decide +kernel
theorem dX7_gaps_126 : decode cX7_gaps 126 = .ok (.ifCond .ne 10, 3) := by decide +kernel
theorem dX7_gaps_129 : decode cX7_gaps 129 = .ok (.aload_n 0, 1) := by decide +kernel
theorem dX7_gaps_130 : decode cX7_gaps 130 = .ok (.invokevirtual 195, 3) := by decide +kernel
theorem dX7_gaps_133 : decode cX7_gaps 133 = .ok (.goto 15, 3) := by decide +kernel
theorem dX7_gaps_136 : decode cX7_gaps 136 = .ok (.aload_n 0, 1) := by decide +kernel
theorem dX7_gaps_137 : decode cX7_gaps 137 = .ok (.invokevirtual 179, 3) := by decide +kernel
theorem dX7_gaps_140 : decode cX7_gaps 140 = .ok (.ifCond .eq 7, 3) := by decide +kernel
theorem dX7_gaps_143 : decode cX7_gaps 143 = .ok (.iconst 1, 1) := by decide +kernel
theorem dX7_gaps_144 : decode cX7_gaps 144 = .ok (.goto 4, 3) := by decide +kernel
theorem dX7_gaps_147 : decode cX7_gaps 147 = .ok (.iconst 0, 1) := by decide +kernel
theorem dX7_gaps_148 : decode cX7_gaps 148 = .ok (.ireturn, 1) := by decide +kernel
theorem dX7_turnedNow_0 : decode cX7_turnedNow 0 = .ok (.iconst 0, 1) := by decide +kernel
theorem dX7_turnedNow_1 : decode cX7_turnedNow 1 = .ok (.istore_n 1, 1) := by decide +kernel
theorem dX7_turnedNow_2 : decode cX7_turnedNow 2 = .ok (.iload_n 1, 1) := by decide +kernel
theorem dX7_turnedNow_3 : decode cX7_turnedNow 3 = .ok (.aload_n 0, 1) := by decide +kernel
theorem dX7_turnedNow_4 : decode cX7_turnedNow 4 = .ok (.getfield 95, 3) := by decide +kernel
theorem dX7_turnedNow_7 : decode cX7_turnedNow 7 = .ok (.if_icmp .ge 28, 3) := by decide +kernel
theorem dX7_turnedNow_10 : decode cX7_turnedNow 10 = .ok (.aload_n 0, 1) := by decide +kernel
theorem dX7_turnedNow_11 : decode cX7_turnedNow 11 = .ok (.getfield 56, 3) := by decide +kernel
theorem dX7_turnedNow_14 : decode cX7_turnedNow 14 = .ok (.iload_n 1, 1) := by decide +kernel
theorem dX7_turnedNow_15 : decode cX7_turnedNow 15 = .ok (.aload_n 0, 1) := by decide +kernel
theorem dX7_turnedNow_16 : decode cX7_turnedNow 16 = .ok (.getfield 62, 3) := by decide +kernel
theorem dX7_turnedNow_19 : decode cX7_turnedNow 19 = .ok (.aload_n 0, 1) := by decide +kernel
theorem dX7_turnedNow_20 : decode cX7_turnedNow 20 = .ok (.getfield 95, 3) := by decide +kernel
theorem dX7_turnedNow_23 : decode cX7_turnedNow 23 = .ok (.iconst 1, 1) := by decide +kernel
theorem dX7_turnedNow_24 : decode cX7_turnedNow 24 = .ok (.isub, 1) := by decide +kernel
theorem dX7_turnedNow_25 : decode cX7_turnedNow 25 = .ok (.iload_n 1, 1) := by decide +kernel
theorem dX7_turnedNow_26 : decode cX7_turnedNow 26 = .ok (.isub, 1) := by decide +kernel
theorem dX7_turnedNow_27 : decode cX7_turnedNow 27 = .ok (.iaload, 1) := by decide +kernel
theorem dX7_turnedNow_28 : decode cX7_turnedNow 28 = .ok (.iastore, 1) := by decide +kernel
theorem dX7_turnedNow_29 : decode cX7_turnedNow 29 = .ok (.iinc 1 1, 3) := by decide +kernel
theorem dX7_turnedNow_32 : decode cX7_turnedNow 32 = .ok (.goto (-30), 3) := by decide +kernel
theorem dX7_turnedNow_35 : decode cX7_turnedNow 35 = .ok (.aload_n 0, 1) := by decide +kernel
theorem dX7_turnedNow_36 : decode cX7_turnedNow 36 = .ok (.invokevirtual 179, 3) := by decide +kernel
theorem dX7_turnedNow_39 : decode cX7_turnedNow 39 = .ok (.ifCond .eq 18, 3) := by decide +kernel
theorem dX7_turnedNow_42 : decode cX7_turnedNow 42 = .ok (.aload_n 0, 1) := by decide +kernel
theorem dX7_turnedNow_43 : decode cX7_turnedNow 43 = .ok (.invokevirtual 195, 3) := by decide +kernel
theorem dX7_turnedNow_46 : decode cX7_turnedNow 46 = .ok (.aload_n 0, 1) := by decide +kernel
theorem dX7_turnedNow_47 : decode cX7_turnedNow 47 = .ok (.getfield 160, 3) := by decide +kernel
theorem dX7_turnedNow_50 : decode cX7_turnedNow 50 = .ok (.if_icmp .ne 7, 3) := by decide +kernel
theorem dX7_turnedNow_53 : decode cX7_turnedNow 53 = .ok (.iconst 1, 1) := by decide +kernel
theorem dX7_turnedNow_54 : decode cX7_turnedNow 54 = .ok (.goto 4, 3) := by decide +kernel
theorem dX7_turnedNow_57 : decode cX7_turnedNow 57 = .ok (.iconst 0, 1) := by decide +kernel
theorem dX7_turnedNow_58 : decode cX7_turnedNow 58 = .ok (.ireturn, 1) := by decide +kernel
theorem dX7_bestNow_0 : decode cX7_bestNow 0 = .ok (.aload_n 0, 1) := by decide +kernel
theorem dX7_bestNow_1 : decode cX7_bestNow 1 = .ok (.invokevirtual 198, 3) := by decide +kernel
theorem dX7_bestNow_4 : decode cX7_bestNow 4 = .ok (.ifCond .ne 6, 3) := by decide +kernel
theorem dX7_bestNow_7 : decode cX7_bestNow 7 = .ok (.bipush (-3), 2) := by decide +kernel
theorem dX7_bestNow_9 : decode cX7_bestNow 9 = .ok (.ireturn, 1) := by decide +kernel
theorem dX7_bestNow_10 : decode cX7_bestNow 10 = .ok (.iload_n 1, 1) := by decide +kernel
theorem dX7_bestNow_11 : decode cX7_bestNow 11 = .ok (.ifCond .ne 10, 3) := by decide +kernel
theorem dX7_bestNow_14 : decode cX7_bestNow 14 = .ok (.aload_n 0, 1) := by decide +kernel
theorem dX7_bestNow_15 : decode cX7_bestNow 15 = .ok (.getfield 160, 3) := by decide +kernel
theorem dX7_bestNow_18 : decode cX7_bestNow 18 = .ok (.goto 19, 3) := by decide +kernel
theorem dX7_bestNow_21 : decode cX7_bestNow 21 = .ok (.iload_n 1, 1) := by decide +kernel
theorem dX7_bestNow_22 : decode cX7_bestNow 22 = .ok (.iconst 1, 1) := by decide +kernel
theorem dX7_bestNow_23 : decode cX7_bestNow 23 = .ok (.if_icmp .ne 10, 3) := by decide +kernel
theorem dX7_bestNow_26 : decode cX7_bestNow 26 = .ok (.aload_n 0, 1) := by decide +kernel
theorem dX7_bestNow_27 : decode cX7_bestNow 27 = .ok (.getfield 163, 3) := by decide +kernel
theorem dX7_bestNow_30 : decode cX7_bestNow 30 = .ok (.goto 7, 3) := by decide +kernel
theorem dX7_bestNow_33 : decode cX7_bestNow 33 = .ok (.aload_n 0, 1) := by decide +kernel
theorem dX7_bestNow_34 : decode cX7_bestNow 34 = .ok (.invokevirtual 201, 3) := by decide +kernel
theorem dX7_bestNow_37 : decode cX7_bestNow 37 = .ok (.ireturn, 1) := by decide +kernel
theorem dX7_best_0 : decode cX7_best 0 = .ok (.iload_n 1, 1) := by decide +kernel
theorem dX7_best_1 : decode cX7_best 1 = .ok (.iconst 0, 1) := by decide +kernel
theorem dX7_best_2 : decode cX7_best 2 = .ok (.iconst 2, 1) := by decide +kernel
theorem dX7_best_3 : decode cX7_best 3 = .ok (.invokestatic 98, 3) := by decide +kernel
theorem dX7_best_6 : decode cX7_best 6 = .ok (.ifCond .eq 11, 3) := by decide +kernel
theorem dX7_best_9 : decode cX7_best 9 = .ok (.aload_n 0, 1) := by decide +kernel
theorem dX7_best_10 : decode cX7_best 10 = .ok (.iload_n 1, 1) := by decide +kernel
theorem dX7_best_11 : decode cX7_best 11 = .ok (.invokevirtual 204, 3) := by decide +kernel
theorem dX7_best_14 : decode cX7_best 14 = .ok (.goto 5, 3) := by decide +kernel
theorem dX7_best_17 : decode cX7_best 17 = .ok (.bipush (-2), 2) := by decide +kernel
theorem dX7_best_19 : decode cX7_best 19 = .ok (.ireturn, 1) := by decide +kernel
theorem dX7_firstNow_0 : decode cX7_firstNow 0 = .ok (.aload_n 0, 1) := by decide +kernel
theorem dX7_firstNow_1 : decode cX7_firstNow 1 = .ok (.invokevirtual 198, 3) := by decide +kernel
theorem dX7_firstNow_4 : decode cX7_firstNow 4 = .ok (.ifCond .ne 8, 3) := by decide +kernel
theorem dX7_firstNow_7 : decode cX7_firstNow 7 = .ok (.bipush (-3), 2) := by decide +kernel
theorem dX7_firstNow_9 : decode cX7_firstNow 9 = .ok (.goto 21, 3) := by decide +kernel
theorem dX7_firstNow_12 : decode cX7_firstNow 12 = .ok (.iload_n 1, 1) := by decide +kernel
theorem dX7_firstNow_13 : decode cX7_firstNow 13 = .ok (.aload_n 0, 1) := by decide +kernel
theorem dX7_firstNow_14 : decode cX7_firstNow 14 = .ok (.getfield 95, 3) := by decide +kernel
theorem dX7_firstNow_17 : decode cX7_firstNow 17 = .ok (.if_icmp .ge 12, 3) := by decide +kernel
theorem dX7_firstNow_20 : decode cX7_firstNow 20 = .ok (.aload_n 0, 1) := by decide +kernel
theorem dX7_firstNow_21 : decode cX7_firstNow 21 = .ok (.getfield 62, 3) := by decide +kernel
theorem dX7_firstNow_24 : decode cX7_firstNow 24 = .ok (.iload_n 1, 1) := by decide +kernel
theorem dX7_firstNow_25 : decode cX7_firstNow 25 = .ok (.iaload, 1) := by decide +kernel
theorem dX7_firstNow_26 : decode cX7_firstNow 26 = .ok (.goto 4, 3) := by decide +kernel
theorem dX7_firstNow_29 : decode cX7_firstNow 29 = .ok (.iconst (-1), 1) := by decide +kernel
theorem dX7_firstNow_30 : decode cX7_firstNow 30 = .ok (.ireturn, 1) := by decide +kernel
theorem dX7_first_0 : decode cX7_first 0 = .ok (.iload_n 1, 1) := by decide +kernel
theorem dX7_first_1 : decode cX7_first 1 = .ok (.ifCond .ge 8, 3) := by decide +kernel
theorem dX7_first_4 : decode cX7_first 4 = .ok (.bipush (-2), 2) := by decide +kernel
theorem dX7_first_6 : decode cX7_first 6 = .ok (.goto 8, 3) := by decide +kernel
theorem dX7_first_9 : decode cX7_first 9 = .ok (.aload_n 0, 1) := by decide +kernel
theorem dX7_first_10 : decode cX7_first 10 = .ok (.iload_n 1, 1) := by decide +kernel
theorem dX7_first_11 : decode cX7_first 11 = .ok (.invokevirtual 207, 3) := by decide +kernel
theorem dX7_first_14 : decode cX7_first 14 = .ok (.ireturn, 1) := by decide +kernel
theorem dX7_sure_0 : decode cX7_sure 0 = .ok (.aload_n 0, 1) := by decide +kernel
theorem dX7_sure_1 : decode cX7_sure 1 = .ok (.iload_n 1, 1) := by decide +kernel
theorem dX7_sure_2 : decode cX7_sure 2 = .ok (.invokevirtual 106, 3) := by decide +kernel
theorem dX7_sure_5 : decode cX7_sure 5 = .ok (.ifCond .eq 16, 3) := by decide +kernel
theorem dX7_sure_8 : decode cX7_sure 8 = .ok (.aload_n 0, 1) := by decide +kernel
theorem dX7_sure_9 : decode cX7_sure 9 = .ok (.iload_n 2, 1) := by decide +kernel
theorem dX7_sure_10 : decode cX7_sure 10 = .ok (.invokevirtual 106, 3) := by decide +kernel
theorem dX7_sure_13 : decode cX7_sure 13 = .ok (.ifCond .eq 8, 3) := by decide +kernel
theorem dX7_sure_16 : decode cX7_sure 16 = .ok (.iload_n 1, 1) := by decide +kernel
theorem dX7_sure_17 : decode cX7_sure 17 = .ok (.iload_n 2, 1) := by decide +kernel
theorem dX7_sure_18 : decode cX7_sure 18 = .ok (.if_icmp .ne 6, 3) := by decide +kernel
theorem dX7_sure_21 : decode cX7_sure 21 = .ok (.bipush (-2), 2) := by decide +kernel
theorem dX7_sure_23 : decode cX7_sure 23 = .ok (.ireturn, 1) := by decide +kernel
theorem dX7_sure_24 : decode cX7_sure 24 = .ok (.aload_n 0, 1) := by decide +kernel
theorem dX7_sure_25 : decode cX7_sure 25 = .ok (.invokevirtual 198, 3) := by decide +kernel
theorem dX7_sure_28 : decode cX7_sure 28 = .ok (.ifCond .ne 8, 3) := by decide +kernel
theorem dX7_sure_31 : decode cX7_sure 31 = .ok (.bipush (-3), 2) := by decide +kernel
theorem dX7_sure_33 : decode cX7_sure 33 = .ok (.goto 21, 3) := by decide +kernel
theorem dX7_sure_36 : decode cX7_sure 36 = .ok (.aload_n 0, 1) := by decide +kernel
theorem dX7_sure_37 : decode cX7_sure 37 = .ok (.getfield 65, 3) := by decide +kernel
theorem dX7_sure_40 : decode cX7_sure 40 = .ok (.iload_n 2, 1) := by decide +kernel
theorem dX7_sure_41 : decode cX7_sure 41 = .ok (.iaload, 1) := by decide +kernel
theorem dX7_sure_42 : decode cX7_sure 42 = .ok (.iload_n 1, 1) := by decide +kernel
theorem dX7_sure_43 : decode cX7_sure 43 = .ok (.invokestatic 152, 3) := by decide +kernel
theorem dX7_sure_46 : decode cX7_sure 46 = .ok (.ifCond .eq 7, 3) := by decide +kernel
theorem dX7_sure_49 : decode cX7_sure 49 = .ok (.iconst 1, 1) := by decide +kernel
theorem dX7_sure_50 : decode cX7_sure 50 = .ok (.goto 4, 3) := by decide +kernel
theorem dX7_sure_53 : decode cX7_sure 53 = .ok (.iconst 0, 1) := by decide +kernel
theorem dX7_sure_54 : decode cX7_sure 54 = .ok (.ireturn, 1) := by decide +kernel
theorem dX7_placesNow_0 : decode cX7_placesNow 0 = .ok (.aload_n 0, 1) := by decide +kernel
theorem dX7_placesNow_1 : decode cX7_placesNow 1 = .ok (.invokevirtual 198, 3) := by decide +kernel
theorem dX7_placesNow_4 : decode cX7_placesNow 4 = .ok (.ifCond .eq 12, 3) := by decide +kernel
theorem dX7_placesNow_7 : decode cX7_placesNow 7 = .ok (.aload_n 0, 1) := by decide +kernel
theorem dX7_placesNow_8 : decode cX7_placesNow 8 = .ok (.getfield 68, 3) := by decide +kernel
theorem dX7_placesNow_11 : decode cX7_placesNow 11 = .ok (.iload_n 1, 1) := by decide +kernel
theorem dX7_placesNow_12 : decode cX7_placesNow 12 = .ok (.iaload, 1) := by decide +kernel
theorem dX7_placesNow_13 : decode cX7_placesNow 13 = .ok (.goto 5, 3) := by decide +kernel
theorem dX7_placesNow_16 : decode cX7_placesNow 16 = .ok (.bipush (-3), 2) := by decide +kernel
theorem dX7_placesNow_18 : decode cX7_placesNow 18 = .ok (.ireturn, 1) := by decide +kernel
theorem dX7_places_0 : decode cX7_places 0 = .ok (.aload_n 0, 1) := by decide +kernel
theorem dX7_places_1 : decode cX7_places 1 = .ok (.iload_n 1, 1) := by decide +kernel
theorem dX7_places_2 : decode cX7_places 2 = .ok (.invokevirtual 106, 3) := by decide +kernel
theorem dX7_places_5 : decode cX7_places 5 = .ok (.ifCond .eq 11, 3) := by decide +kernel
theorem dX7_places_8 : decode cX7_places 8 = .ok (.aload_n 0, 1) := by decide +kernel
theorem dX7_places_9 : decode cX7_places 9 = .ok (.iload_n 1, 1) := by decide +kernel
theorem dX7_places_10 : decode cX7_places 10 = .ok (.invokevirtual 210, 3) := by decide +kernel
theorem dX7_places_13 : decode cX7_places 13 = .ok (.goto 5, 3) := by decide +kernel
theorem dX7_places_16 : decode cX7_places 16 = .ok (.bipush (-2), 2) := by decide +kernel
theorem dX7_places_18 : decode cX7_places 18 = .ok (.ireturn, 1) := by decide +kernel
theorem dX7_spreadNow_0 : decode cX7_spreadNow 0 = .ok (.aload_n 0, 1) := by decide +kernel
theorem dX7_spreadNow_1 : decode cX7_spreadNow 1 = .ok (.invokevirtual 192, 3) := by decide +kernel
theorem dX7_spreadNow_4 : decode cX7_spreadNow 4 = .ok (.iconst 0, 1) := by decide +kernel
theorem dX7_spreadNow_5 : decode cX7_spreadNow 5 = .ok (.istore_n 3, 1) := by decide +kernel
theorem dX7_spreadNow_6 : decode cX7_spreadNow 6 = .ok (.iload_n 2, 1) := by decide +kernel
theorem dX7_spreadNow_7 : decode cX7_spreadNow 7 = .ok (.ifCond .ne 7, 3) := by decide +kernel
theorem dX7_spreadNow_10 : decode cX7_spreadNow 10 = .ok (.iload_n 1, 1) := by decide +kernel
theorem dX7_spreadNow_11 : decode cX7_spreadNow 11 = .ok (.goto 4, 3) := by decide +kernel
theorem dX7_spreadNow_14 : decode cX7_spreadNow 14 = .ok (.iconst 0, 1) := by decide +kernel
theorem dX7_spreadNow_15 : decode cX7_spreadNow 15 = .ok (.istore 4, 2) := by decide +kernel
theorem dX7_spreadNow_17 : decode cX7_spreadNow 17 = .ok (.iload 4, 2) := by decide +kernel
theorem dX7_spreadNow_19 : decode cX7_spreadNow 19 = .ok (.iload_n 1, 1) := by decide +kernel
theorem dX7_spreadNow_20 : decode cX7_spreadNow 20 = .ok (.if_icmp .gt 19, 3) := by decide +kernel
theorem dX7_spreadNow_23 : decode cX7_spreadNow 23 = .ok (.iload_n 3, 1) := by decide +kernel
theorem dX7_spreadNow_24 : decode cX7_spreadNow 24 = .ok (.aload_n 0, 1) := by decide +kernel
theorem dX7_spreadNow_25 : decode cX7_spreadNow 25 = .ok (.getfield 59, 3) := by decide +kernel
theorem dX7_spreadNow_28 : decode cX7_spreadNow 28 = .ok (.iload 4, 2) := by decide +kernel
theorem dX7_spreadNow_30 : decode cX7_spreadNow 30 = .ok (.iaload, 1) := by decide +kernel
theorem dX7_spreadNow_31 : decode cX7_spreadNow 31 = .ok (.iadd, 1) := by decide +kernel
theorem dX7_spreadNow_32 : decode cX7_spreadNow 32 = .ok (.istore_n 3, 1) := by decide +kernel
theorem dX7_spreadNow_33 : decode cX7_spreadNow 33 = .ok (.iinc 4 1, 3) := by decide +kernel
theorem dX7_spreadNow_36 : decode cX7_spreadNow 36 = .ok (.goto (-19), 3) := by decide +kernel
theorem dX7_spreadNow_39 : decode cX7_spreadNow 39 = .ok (.iload_n 3, 1) := by decide +kernel
theorem dX7_spreadNow_40 : decode cX7_spreadNow 40 = .ok (.ireturn, 1) := by decide +kernel
theorem dX7_spread_0 : decode cX7_spread 0 = .ok (.iload_n 1, 1) := by decide +kernel
theorem dX7_spread_1 : decode cX7_spread 1 = .ok (.iconst 0, 1) := by decide +kernel
theorem dX7_spread_2 : decode cX7_spread 2 = .ok (.sipush 999, 3) := by decide +kernel
theorem dX7_spread_5 : decode cX7_spread 5 = .ok (.invokestatic 98, 3) := by decide +kernel
theorem dX7_spread_8 : decode cX7_spread 8 = .ok (.ifCond .eq 21, 3) := by decide +kernel
theorem dX7_spread_11 : decode cX7_spread 11 = .ok (.iload_n 2, 1) := by decide +kernel
theorem dX7_spread_12 : decode cX7_spread 12 = .ok (.iconst 0, 1) := by decide +kernel
theorem dX7_spread_13 : decode cX7_spread 13 = .ok (.iconst 1, 1) := by decide +kernel
theorem dX7_spread_14 : decode cX7_spread 14 = .ok (.invokestatic 98, 3) := by decide +kernel
theorem dX7_spread_17 : decode cX7_spread 17 = .ok (.ifCond .eq 12, 3) := by decide +kernel
theorem dX7_spread_20 : decode cX7_spread 20 = .ok (.aload_n 0, 1) := by decide +kernel
theorem dX7_spread_21 : decode cX7_spread 21 = .ok (.iload_n 1, 1) := by decide +kernel
theorem dX7_spread_22 : decode cX7_spread 22 = .ok (.iload_n 2, 1) := by decide +kernel
theorem dX7_spread_23 : decode cX7_spread 23 = .ok (.invokevirtual 213, 3) := by decide +kernel
theorem dX7_spread_26 : decode cX7_spread 26 = .ok (.goto 5, 3) := by decide +kernel
theorem dX7_spread_29 : decode cX7_spread 29 = .ok (.bipush (-2), 2) := by decide +kernel
theorem dX7_spread_31 : decode cX7_spread 31 = .ok (.ireturn, 1) := by decide +kernel
theorem dX7_meanNow_0 : decode cX7_meanNow 0 = .ok (.aload_n 0, 1) := by decide +kernel
theorem dX7_meanNow_1 : decode cX7_meanNow 1 = .ok (.invokevirtual 198, 3) := by decide +kernel
theorem dX7_meanNow_4 : decode cX7_meanNow 4 = .ok (.ifCond .eq 19, 3) := by decide +kernel
theorem dX7_meanNow_7 : decode cX7_meanNow 7 = .ok (.aload_n 0, 1) := by decide +kernel
theorem dX7_meanNow_8 : decode cX7_meanNow 8 = .ok (.getfield 169, 3) := by decide +kernel
theorem dX7_meanNow_11 : decode cX7_meanNow 11 = .ok (.aload_n 0, 1) := by decide +kernel
theorem dX7_meanNow_12 : decode cX7_meanNow 12 = .ok (.getfield 166, 3) := by decide +kernel
theorem dX7_meanNow_15 : decode cX7_meanNow 15 = .ok (.i2l, 1) := by decide +kernel
theorem dX7_meanNow_16 : decode cX7_meanNow 16 = .ok (.iload_n 1, 1) := by decide +kernel
theorem dX7_meanNow_17 : decode cX7_meanNow 17 = .ok (.invokestatic 217, 3) := by decide +kernel
theorem dX7_meanNow_20 : decode cX7_meanNow 20 = .ok (.goto 8, 3) := by decide +kernel
theorem dX7_meanNow_23 : decode cX7_meanNow 23 = .ok (.bipush (-3), 2) := by decide +kernel
theorem dX7_meanNow_25 : decode cX7_meanNow 25 = .ok (.invokestatic 221, 3) := by decide +kernel
theorem dX7_meanNow_28 : decode cX7_meanNow 28 = .ok (.lreturn, 1) := by decide +kernel
theorem dX7_mean_0 : decode cX7_mean 0 = .ok (.iload_n 1, 1) := by decide +kernel
theorem dX7_mean_1 : decode cX7_mean 1 = .ok (.iconst 0, 1) := by decide +kernel
theorem dX7_mean_2 : decode cX7_mean 2 = .ok (.iconst 1, 1) := by decide +kernel
theorem dX7_mean_3 : decode cX7_mean 3 = .ok (.invokestatic 98, 3) := by decide +kernel
theorem dX7_mean_6 : decode cX7_mean 6 = .ok (.ifCond .eq 11, 3) := by decide +kernel
theorem dX7_mean_9 : decode cX7_mean 9 = .ok (.aload_n 0, 1) := by decide +kernel
theorem dX7_mean_10 : decode cX7_mean 10 = .ok (.iload_n 1, 1) := by decide +kernel
theorem dX7_mean_11 : decode cX7_mean 11 = .ok (.invokevirtual 225, 3) := by decide +kernel
theorem dX7_mean_14 : decode cX7_mean 14 = .ok (.goto 8, 3) := by decide +kernel
theorem dX7_mean_17 : decode cX7_mean 17 = .ok (.bipush (-2), 2) := by decide +kernel
theorem dX7_mean_19 : decode cX7_mean 19 = .ok (.invokestatic 221, 3) := by decide +kernel
theorem dX7_mean_22 : decode cX7_mean 22 = .ok (.lreturn, 1) := by decide +kernel
theorem dX7_leftNow_0 : decode cX7_leftNow 0 = .ok (.aload_n 0, 1) := by decide +kernel
theorem dX7_leftNow_1 : decode cX7_leftNow 1 = .ok (.invokevirtual 198, 3) := by decide +kernel
theorem dX7_leftNow_4 : decode cX7_leftNow 4 = .ok (.ifCond .eq 10, 3) := by decide +kernel
theorem dX7_leftNow_7 : decode cX7_leftNow 7 = .ok (.aload_n 0, 1) := by decide +kernel
theorem dX7_leftNow_8 : decode cX7_leftNow 8 = .ok (.getfield 173, 3) := by decide +kernel
theorem dX7_leftNow_11 : decode cX7_leftNow 11 = .ok (.goto 5, 3) := by decide +kernel
theorem dX7_leftNow_14 : decode cX7_leftNow 14 = .ok (.bipush (-3), 2) := by decide +kernel
theorem dX7_leftNow_16 : decode cX7_leftNow 16 = .ok (.ireturn, 1) := by decide +kernel
theorem dX7_leftOut_0 : decode cX7_leftOut 0 = .ok (.aload_n 0, 1) := by decide +kernel
theorem dX7_leftOut_1 : decode cX7_leftOut 1 = .ok (.invokevirtual 228, 3) := by decide +kernel
theorem dX7_leftOut_4 : decode cX7_leftOut 4 = .ok (.ireturn, 1) := by decide +kernel
theorem dX7_mendedNow_0 : decode cX7_mendedNow 0 = .ok (.aload_n 0, 1) := by decide +kernel
theorem dX7_mendedNow_1 : decode cX7_mendedNow 1 = .ok (.invokevirtual 198, 3) := by decide +kernel
theorem dX7_mendedNow_4 : decode cX7_mendedNow 4 = .ok (.ifCond .ne 6, 3) := by decide +kernel
theorem dX7_mendedNow_7 : decode cX7_mendedNow 7 = .ok (.bipush (-3), 2) := by decide +kernel
theorem dX7_mendedNow_9 : decode cX7_mendedNow 9 = .ok (.ireturn, 1) := by decide +kernel
theorem dX7_mendedNow_10 : decode cX7_mendedNow 10 = .ok (.iconst 0, 1) := by decide +kernel
theorem dX7_mendedNow_11 : decode cX7_mendedNow 11 = .ok (.istore_n 2, 1) := by decide +kernel
theorem dX7_mendedNow_12 : decode cX7_mendedNow 12 = .ok (.iconst 0, 1) := by decide +kernel
theorem dX7_mendedNow_13 : decode cX7_mendedNow 13 = .ok (.istore_n 3, 1) := by decide +kernel
theorem dX7_mendedNow_14 : decode cX7_mendedNow 14 = .ok (.iload_n 3, 1) := by decide +kernel
theorem dX7_mendedNow_15 : decode cX7_mendedNow 15 = .ok (.aload_n 0, 1) := by decide +kernel
theorem dX7_mendedNow_16 : decode cX7_mendedNow 16 = .ok (.getfield 95, 3) := by decide +kernel
theorem dX7_mendedNow_19 : decode cX7_mendedNow 19 = .ok (.if_icmp .ge 35, 3) := by decide +kernel
theorem dX7_mendedNow_22 : decode cX7_mendedNow 22 = .ok (.iload_n 2, 1) := by decide +kernel
theorem dX7_mendedNow_23 : decode cX7_mendedNow 23 = .ok (.aload_n 0, 1) := by decide +kernel
theorem dX7_mendedNow_24 : decode cX7_mendedNow 24 = .ok (.getfield 53, 3) := by decide +kernel
theorem dX7_mendedNow_27 : decode cX7_mendedNow 27 = .ok (.aload_n 0, 1) := by decide +kernel
theorem dX7_mendedNow_28 : decode cX7_mendedNow 28 = .ok (.getfield 62, 3) := by decide +kernel
theorem dX7_mendedNow_31 : decode cX7_mendedNow 31 = .ok (.iload_n 3, 1) := by decide +kernel
theorem dX7_mendedNow_32 : decode cX7_mendedNow 32 = .ok (.iaload, 1) := by decide +kernel
theorem dX7_mendedNow_33 : decode cX7_mendedNow 33 = .ok (.iaload, 1) := by decide +kernel
theorem dX7_mendedNow_34 : decode cX7_mendedNow 34 = .ok (.iload_n 1, 1) := by decide +kernel
theorem dX7_mendedNow_35 : decode cX7_mendedNow 35 = .ok (.invokestatic 152, 3) := by decide +kernel
theorem dX7_mendedNow_38 : decode cX7_mendedNow 38 = .ok (.ifCond .eq 7, 3) := by decide +kernel
theorem dX7_mendedNow_41 : decode cX7_mendedNow 41 = .ok (.iconst 1, 1) := by decide +kernel
theorem dX7_mendedNow_42 : decode cX7_mendedNow 42 = .ok (.goto 4, 3) := by decide +kernel
theorem dX7_mendedNow_45 : decode cX7_mendedNow 45 = .ok (.iconst 0, 1) := by decide +kernel
theorem dX7_mendedNow_46 : decode cX7_mendedNow 46 = .ok (.iadd, 1) := by decide +kernel
theorem dX7_mendedNow_47 : decode cX7_mendedNow 47 = .ok (.istore_n 2, 1) := by decide +kernel
theorem dX7_mendedNow_48 : decode cX7_mendedNow 48 = .ok (.iinc 3 1, 3) := by decide +kernel
theorem dX7_mendedNow_51 : decode cX7_mendedNow 51 = .ok (.goto (-37), 3) := by decide +kernel
theorem dX7_mendedNow_54 : decode cX7_mendedNow 54 = .ok (.iload_n 2, 1) := by decide +kernel
theorem dX7_mendedNow_55 : decode cX7_mendedNow 55 = .ok (.istore_n 3, 1) := by decide +kernel
theorem dX7_mendedNow_56 : decode cX7_mendedNow 56 = .ok (.iconst 0, 1) := by decide +kernel
theorem dX7_mendedNow_57 : decode cX7_mendedNow 57 = .ok (.istore 4, 2) := by decide +kernel
theorem dX7_mendedNow_59 : decode cX7_mendedNow 59 = .ok (.iload 4, 2) := by decide +kernel
theorem dX7_mendedNow_61 : decode cX7_mendedNow 61 = .ok (.aload_n 0, 1) := by decide +kernel
theorem dX7_mendedNow_62 : decode cX7_mendedNow 62 = .ok (.getfield 95, 3) := by decide +kernel
theorem dX7_mendedNow_65 : decode cX7_mendedNow 65 = .ok (.if_icmp .ge 141, 3) := by decide +kernel
theorem dX7_mendedNow_68 : decode cX7_mendedNow 68 = .ok (.iconst 0, 1) := by decide +kernel
theorem dX7_mendedNow_69 : decode cX7_mendedNow 69 = .ok (.istore 5, 2) := by decide +kernel
theorem dX7_mendedNow_71 : decode cX7_mendedNow 71 = .ok (.iconst 0, 1) := by decide +kernel
theorem dX7_mendedNow_72 : decode cX7_mendedNow 72 = .ok (.istore 6, 2) := by decide +kernel
theorem dX7_mendedNow_74 : decode cX7_mendedNow 74 = .ok (.iconst 0, 1) := by decide +kernel
theorem dX7_mendedNow_75 : decode cX7_mendedNow 75 = .ok (.istore 7, 2) := by decide +kernel
theorem dX7_mendedNow_77 : decode cX7_mendedNow 77 = .ok (.iload 4, 2) := by decide +kernel
theorem dX7_mendedNow_79 : decode cX7_mendedNow 79 = .ok (.istore 8, 2) := by decide +kernel
theorem dX7_mendedNow_81 : decode cX7_mendedNow 81 = .ok (.iload 8, 2) := by decide +kernel
theorem dX7_mendedNow_83 : decode cX7_mendedNow 83 = .ok (.aload_n 0, 1) := by decide +kernel
theorem dX7_mendedNow_84 : decode cX7_mendedNow 84 = .ok (.getfield 95, 3) := by decide +kernel
theorem dX7_mendedNow_87 : decode cX7_mendedNow 87 = .ok (.if_icmp .ge 113, 3) := by decide +kernel
theorem dX7_mendedNow_90 : decode cX7_mendedNow 90 = .ok (.aload_n 0, 1) := by decide +kernel
theorem dX7_mendedNow_91 : decode cX7_mendedNow 91 = .ok (.getfield 53, 3) := by decide +kernel
theorem dX7_mendedNow_94 : decode cX7_mendedNow 94 = .ok (.aload_n 0, 1) := by decide +kernel
theorem dX7_mendedNow_95 : decode cX7_mendedNow 95 = .ok (.getfield 62, 3) := by decide +kernel
theorem dX7_mendedNow_98 : decode cX7_mendedNow 98 = .ok (.iload 4, 2) := by decide +kernel
theorem dX7_mendedNow_100 : decode cX7_mendedNow 100 = .ok (.iaload, 1) := by decide +kernel
theorem dX7_mendedNow_101 : decode cX7_mendedNow 101 = .ok (.iaload, 1) := by decide +kernel
theorem dX7_mendedNow_102 : decode cX7_mendedNow 102 = .ok (.iload_n 1, 1) := by decide +kernel
theorem dX7_mendedNow_103 : decode cX7_mendedNow 103 = .ok (.invokestatic 152, 3) := by decide +kernel
theorem dX7_mendedNow_106 : decode cX7_mendedNow 106 = .ok (.ifCond .eq 94, 3) := by decide +kernel
theorem dX7_mendedNow_109 : decode cX7_mendedNow 109 = .ok (.aload_n 0, 1) := by decide +kernel
theorem dX7_mendedNow_110 : decode cX7_mendedNow 110 = .ok (.getfield 53, 3) := by decide +kernel
theorem dX7_mendedNow_113 : decode cX7_mendedNow 113 = .ok (.aload_n 0, 1) := by decide +kernel
theorem dX7_mendedNow_114 : decode cX7_mendedNow 114 = .ok (.getfield 62, 3) := by decide +kernel
theorem dX7_mendedNow_117 : decode cX7_mendedNow 117 = .ok (.iload 8, 2) := by decide +kernel
theorem dX7_mendedNow_119 : decode cX7_mendedNow 119 = .ok (.iaload, 1) := by decide +kernel
theorem dX7_mendedNow_120 : decode cX7_mendedNow 120 = .ok (.iaload, 1) := by decide +kernel
theorem dX7_mendedNow_121 : decode cX7_mendedNow 121 = .ok (.iload_n 1, 1) := by decide +kernel
theorem dX7_mendedNow_122 : decode cX7_mendedNow 122 = .ok (.invokestatic 152, 3) := by decide +kernel
theorem dX7_mendedNow_125 : decode cX7_mendedNow 125 = .ok (.ifCond .eq 42, 3) := by decide +kernel
theorem dX7_mendedNow_128 : decode cX7_mendedNow 128 = .ok (.iinc 5 1, 3) := by decide +kernel
theorem dX7_mendedNow_131 : decode cX7_mendedNow 131 = .ok (.iload 6, 2) := by decide +kernel
theorem dX7_mendedNow_133 : decode cX7_mendedNow 133 = .ok (.iload 7, 2) := by decide +kernel
theorem dX7_mendedNow_135 : decode cX7_mendedNow 135 = .ok (.iadd, 1) := by decide +kernel
theorem dX7_mendedNow_136 : decode cX7_mendedNow 136 = .ok (.istore 6, 2) := by decide +kernel
theorem dX7_mendedNow_138 : decode cX7_mendedNow 138 = .ok (.iconst 0, 1) := by decide +kernel
theorem dX7_mendedNow_139 : decode cX7_mendedNow 139 = .ok (.istore 7, 2) := by decide +kernel
theorem dX7_mendedNow_141 : decode cX7_mendedNow 141 = .ok (.iload_n 2, 1) := by decide +kernel
theorem dX7_mendedNow_142 : decode cX7_mendedNow 142 = .ok (.iload 5, 2) := by decide +kernel
theorem dX7_mendedNow_144 : decode cX7_mendedNow 144 = .ok (.isub, 1) := by decide +kernel
theorem dX7_mendedNow_145 : decode cX7_mendedNow 145 = .ok (.iload 6, 2) := by decide +kernel
theorem dX7_mendedNow_147 : decode cX7_mendedNow 147 = .ok (.iadd, 1) := by decide +kernel
theorem dX7_mendedNow_148 : decode cX7_mendedNow 148 = .ok (.iload_n 3, 1) := by decide +kernel
theorem dX7_mendedNow_149 : decode cX7_mendedNow 149 = .ok (.if_icmp .ge 13, 3) := by decide +kernel
theorem dX7_mendedNow_152 : decode cX7_mendedNow 152 = .ok (.iload_n 2, 1) := by decide +kernel
theorem dX7_mendedNow_153 : decode cX7_mendedNow 153 = .ok (.iload 5, 2) := by decide +kernel
theorem dX7_mendedNow_155 : decode cX7_mendedNow 155 = .ok (.isub, 1) := by decide +kernel
theorem dX7_mendedNow_156 : decode cX7_mendedNow 156 = .ok (.iload 6, 2) := by decide +kernel
theorem dX7_mendedNow_158 : decode cX7_mendedNow 158 = .ok (.iadd, 1) := by decide +kernel
theorem dX7_mendedNow_159 : decode cX7_mendedNow 159 = .ok (.goto 4, 3) := by decide +kernel
theorem dX7_mendedNow_162 : decode cX7_mendedNow 162 = .ok (.iload_n 3, 1) := by decide +kernel
theorem dX7_mendedNow_163 : decode cX7_mendedNow 163 = .ok (.istore_n 3, 1) := by decide +kernel
theorem dX7_mendedNow_164 : decode cX7_mendedNow 164 = .ok (.goto 30, 3) := by decide +kernel
theorem dX7_mendedNow_167 : decode cX7_mendedNow 167 = .ok (.iload 7, 2) := by decide +kernel
theorem dX7_mendedNow_169 : decode cX7_mendedNow 169 = .ok (.aload_n 0, 1) := by decide +kernel
theorem dX7_mendedNow_170 : decode cX7_mendedNow 170 = .ok (.getfield 110, 3) := by decide +kernel
theorem dX7_mendedNow_173 : decode cX7_mendedNow 173 = .ok (.aload_n 0, 1) := by decide +kernel
theorem dX7_mendedNow_174 : decode cX7_mendedNow 174 = .ok (.getfield 62, 3) := by decide +kernel
theorem dX7_mendedNow_177 : decode cX7_mendedNow 177 = .ok (.iload 8, 2) := by decide +kernel
theorem dX7_mendedNow_179 : decode cX7_mendedNow 179 = .ok (.iaload, 1) := by decide +kernel
theorem dX7_mendedNow_180 : decode cX7_mendedNow 180 = .ok (.invokestatic 152, 3) := by decide +kernel
theorem dX7_mendedNow_183 : decode cX7_mendedNow 183 = .ok (.ifCond .eq 7, 3) := by decide +kernel
theorem dX7_mendedNow_186 : decode cX7_mendedNow 186 = .ok (.iconst 0, 1) := by decide +kernel
theorem dX7_mendedNow_187 : decode cX7_mendedNow 187 = .ok (.goto 4, 3) := by decide +kernel
theorem dX7_mendedNow_190 : decode cX7_mendedNow 190 = .ok (.iconst 1, 1) := by decide +kernel
theorem dX7_mendedNow_191 : decode cX7_mendedNow 191 = .ok (.iadd, 1) := by decide +kernel
theorem dX7_mendedNow_192 : decode cX7_mendedNow 192 = .ok (.istore 7, 2) := by decide +kernel
theorem dX7_mendedNow_194 : decode cX7_mendedNow 194 = .ok (.iinc 8 1, 3) := by decide +kernel
theorem dX7_mendedNow_197 : decode cX7_mendedNow 197 = .ok (.goto (-116), 3) := by decide +kernel
theorem dX7_mendedNow_200 : decode cX7_mendedNow 200 = .ok (.iinc 4 1, 3) := by decide +kernel
theorem dX7_mendedNow_203 : decode cX7_mendedNow 203 = .ok (.goto (-144), 3) := by decide +kernel
theorem dX7_mendedNow_206 : decode cX7_mendedNow 206 = .ok (.iload_n 3, 1) := by decide +kernel
theorem dX7_mendedNow_207 : decode cX7_mendedNow 207 = .ok (.ireturn, 1) := by decide +kernel
theorem dX7_mended_0 : decode cX7_mended 0 = .ok (.iload_n 1, 1) := by decide +kernel
theorem dX7_mended_1 : decode cX7_mended 1 = .ok (.invokestatic 113, 3) := by decide +kernel
theorem dX7_mended_4 : decode cX7_mended 4 = .ok (.ifCond .eq 11, 3) := by decide +kernel
theorem dX7_mended_7 : decode cX7_mended 7 = .ok (.aload_n 0, 1) := by decide +kernel
theorem dX7_mended_8 : decode cX7_mended 8 = .ok (.iload_n 1, 1) := by decide +kernel
theorem dX7_mended_9 : decode cX7_mended 9 = .ok (.invokevirtual 231, 3) := by decide +kernel
theorem dX7_mended_12 : decode cX7_mended 12 = .ok (.goto 5, 3) := by decide +kernel
theorem dX7_mended_15 : decode cX7_mended 15 = .ok (.bipush (-2), 2) := by decide +kernel
theorem dX7_mended_17 : decode cX7_mended 17 = .ok (.ireturn, 1) := by decide +kernel
theorem dX7_straddles_0 : decode cX7_straddles 0 = .ok (.iconst 0, 1) := by decide +kernel
theorem dX7_straddles_1 : decode cX7_straddles 1 = .ok (.istore_n 1, 1) := by decide +kernel
theorem dX7_straddles_2 : decode cX7_straddles 2 = .ok (.iconst 0, 1) := by decide +kernel
theorem dX7_straddles_3 : decode cX7_straddles 3 = .ok (.istore_n 2, 1) := by decide +kernel
theorem dX7_straddles_4 : decode cX7_straddles 4 = .ok (.iload_n 2, 1) := by decide +kernel
theorem dX7_straddles_5 : decode cX7_straddles 5 = .ok (.bipush 10, 2) := by decide +kernel
theorem dX7_straddles_7 : decode cX7_straddles 7 = .ok (.if_icmp .ge 88, 3) := by decide +kernel
theorem dX7_straddles_10 : decode cX7_straddles 10 = .ok (.iconst 0, 1) := by decide +kernel
theorem dX7_straddles_11 : decode cX7_straddles 11 = .ok (.istore_n 3, 1) := by decide +kernel
theorem dX7_straddles_12 : decode cX7_straddles 12 = .ok (.iconst 0, 1) := by decide +kernel
theorem dX7_straddles_13 : decode cX7_straddles 13 = .ok (.istore 4, 2) := by decide +kernel
theorem dX7_straddles_15 : decode cX7_straddles 15 = .ok (.iload 4, 2) := by decide +kernel
theorem dX7_straddles_17 : decode cX7_straddles 17 = .ok (.aload_n 0, 1) := by decide +kernel
theorem dX7_straddles_18 : decode cX7_straddles 18 = .ok (.getfield 95, 3) := by decide +kernel
theorem dX7_straddles_21 : decode cX7_straddles 21 = .ok (.if_icmp .ge 44, 3) := by decide +kernel
theorem dX7_straddles_24 : decode cX7_straddles 24 = .ok (.iload_n 3, 1) := by decide +kernel
theorem dX7_straddles_25 : decode cX7_straddles 25 = .ok (.aload_n 0, 1) := by decide +kernel
theorem dX7_straddles_26 : decode cX7_straddles 26 = .ok (.getfield 53, 3) := by decide +kernel
theorem dX7_straddles_29 : decode cX7_straddles 29 = .ok (.aload_n 0, 1) := by decide +kernel
theorem dX7_straddles_30 : decode cX7_straddles 30 = .ok (.getfield 62, 3) := by decide +kernel
theorem dX7_straddles_33 : decode cX7_straddles 33 = .ok (.iload 4, 2) := by decide +kernel
theorem dX7_straddles_35 : decode cX7_straddles 35 = .ok (.iaload, 1) := by decide +kernel
theorem dX7_straddles_36 : decode cX7_straddles 36 = .ok (.iaload, 1) := by decide +kernel
theorem dX7_straddles_37 : decode cX7_straddles 37 = .ok (.iload_n 2, 1) := by decide +kernel
theorem dX7_straddles_38 : decode cX7_straddles 38 = .ok (.invokestatic 152, 3) := by decide +kernel
theorem dX7_straddles_41 : decode cX7_straddles 41 = .ok (.ifCond .eq 15, 3) := by decide +kernel
theorem dX7_straddles_44 : decode cX7_straddles 44 = .ok (.iconst 1, 1) := by decide +kernel
theorem dX7_straddles_45 : decode cX7_straddles 45 = .ok (.aload_n 0, 1) := by decide +kernel
theorem dX7_straddles_46 : decode cX7_straddles 46 = .ok (.getfield 71, 3) := by decide +kernel
theorem dX7_straddles_49 : decode cX7_straddles 49 = .ok (.iload 4, 2) := by decide +kernel
theorem dX7_straddles_51 : decode cX7_straddles 51 = .ok (.iaload, 1) := by decide +kernel
theorem dX7_straddles_52 : decode cX7_straddles 52 = .ok (.ishl, 1) := by decide +kernel
theorem dX7_straddles_53 : decode cX7_straddles 53 = .ok (.goto 4, 3) := by decide +kernel
theorem dX7_straddles_56 : decode cX7_straddles 56 = .ok (.iconst 0, 1) := by decide +kernel
theorem dX7_straddles_57 : decode cX7_straddles 57 = .ok (.ior, 1) := by decide +kernel
theorem dX7_straddles_58 : decode cX7_straddles 58 = .ok (.istore_n 3, 1) := by decide +kernel
theorem dX7_straddles_59 : decode cX7_straddles 59 = .ok (.iinc 4 1, 3) := by decide +kernel
theorem dX7_straddles_62 : decode cX7_straddles 62 = .ok (.goto (-47), 3) := by decide +kernel
theorem dX7_straddles_65 : decode cX7_straddles 65 = .ok (.iload_n 1, 1) := by decide +kernel
theorem dX7_straddles_66 : decode cX7_straddles 66 = .ok (.iload_n 3, 1) := by decide +kernel
theorem dX7_straddles_67 : decode cX7_straddles 67 = .ok (.ifCond .ne 7, 3) := by decide +kernel
theorem dX7_straddles_70 : decode cX7_straddles 70 = .ok (.iconst 0, 1) := by decide +kernel
theorem dX7_straddles_71 : decode cX7_straddles 71 = .ok (.goto 16, 3) := by decide +kernel
theorem dX7_straddles_74 : decode cX7_straddles 74 = .ok (.aload_n 0, 1) := by decide +kernel
theorem dX7_straddles_75 : decode cX7_straddles 75 = .ok (.getfield 16, 3) := by decide +kernel
theorem dX7_straddles_78 : decode cX7_straddles 78 = .ok (.iload_n 2, 1) := by decide +kernel
theorem dX7_straddles_79 : decode cX7_straddles 79 = .ok (.iaload, 1) := by decide +kernel
theorem dX7_straddles_80 : decode cX7_straddles 80 = .ok (.iload_n 3, 1) := by decide +kernel
theorem dX7_straddles_81 : decode cX7_straddles 81 = .ok (.invokestatic 189, 3) := by decide +kernel
theorem dX7_straddles_84 : decode cX7_straddles 84 = .ok (.iconst 1, 1) := by decide +kernel
theorem dX7_straddles_85 : decode cX7_straddles 85 = .ok (.isub, 1) := by decide +kernel
theorem dX7_straddles_86 : decode cX7_straddles 86 = .ok (.imul, 1) := by decide +kernel
theorem dX7_straddles_87 : decode cX7_straddles 87 = .ok (.iadd, 1) := by decide +kernel
theorem dX7_straddles_88 : decode cX7_straddles 88 = .ok (.istore_n 1, 1) := by decide +kernel
theorem dX7_straddles_89 : decode cX7_straddles 89 = .ok (.iinc 2 1, 3) := by decide +kernel
theorem dX7_straddles_92 : decode cX7_straddles 92 = .ok (.goto (-88), 3) := by decide +kernel
theorem dX7_straddles_95 : decode cX7_straddles 95 = .ok (.iload_n 1, 1) := by decide +kernel
theorem dX7_straddles_96 : decode cX7_straddles 96 = .ok (.ireturn, 1) := by decide +kernel
theorem dX7_isEarlier_0 : decode cX7_isEarlier 0 = .ok (.iconst 0, 1) := by decide +kernel
theorem dX7_isEarlier_1 : decode cX7_isEarlier 1 = .ok (.istore_n 1, 1) := by decide +kernel
theorem dX7_isEarlier_2 : decode cX7_isEarlier 2 = .ok (.iload_n 1, 1) := by decide +kernel
theorem dX7_isEarlier_3 : decode cX7_isEarlier 3 = .ok (.aload_n 0, 1) := by decide +kernel
theorem dX7_isEarlier_4 : decode cX7_isEarlier 4 = .ok (.getfield 95, 3) := by decide +kernel
theorem dX7_isEarlier_7 : decode cX7_isEarlier 7 = .ok (.if_icmp .ge 45, 3) := by decide +kernel
theorem dX7_isEarlier_10 : decode cX7_isEarlier 10 = .ok (.aload_n 0, 1) := by decide +kernel
theorem dX7_isEarlier_11 : decode cX7_isEarlier 11 = .ok (.getfield 71, 3) := by decide +kernel
theorem dX7_isEarlier_14 : decode cX7_isEarlier 14 = .ok (.iload_n 1, 1) := by decide +kernel
theorem dX7_isEarlier_15 : decode cX7_isEarlier 15 = .ok (.iaload, 1) := by decide +kernel
theorem dX7_isEarlier_16 : decode cX7_isEarlier 16 = .ok (.aload_n 0, 1) := by decide +kernel
theorem dX7_isEarlier_17 : decode cX7_isEarlier 17 = .ok (.getfield 74, 3) := by decide +kernel
theorem dX7_isEarlier_20 : decode cX7_isEarlier 20 = .ok (.iload_n 1, 1) := by decide +kernel
theorem dX7_isEarlier_21 : decode cX7_isEarlier 21 = .ok (.iaload, 1) := by decide +kernel
theorem dX7_isEarlier_22 : decode cX7_isEarlier 22 = .ok (.if_icmp .eq 24, 3) := by decide +kernel
theorem dX7_isEarlier_25 : decode cX7_isEarlier 25 = .ok (.aload_n 0, 1) := by decide +kernel
theorem dX7_isEarlier_26 : decode cX7_isEarlier 26 = .ok (.getfield 71, 3) := by decide +kernel
theorem dX7_isEarlier_29 : decode cX7_isEarlier 29 = .ok (.iload_n 1, 1) := by decide +kernel
theorem dX7_isEarlier_30 : decode cX7_isEarlier 30 = .ok (.iaload, 1) := by decide +kernel
theorem dX7_isEarlier_31 : decode cX7_isEarlier 31 = .ok (.aload_n 0, 1) := by decide +kernel
theorem dX7_isEarlier_32 : decode cX7_isEarlier 32 = .ok (.getfield 74, 3) := by decide +kernel
theorem dX7_isEarlier_35 : decode cX7_isEarlier 35 = .ok (.iload_n 1, 1) := by decide +kernel
theorem dX7_isEarlier_36 : decode cX7_isEarlier 36 = .ok (.iaload, 1) := by decide +kernel
theorem dX7_isEarlier_37 : decode cX7_isEarlier 37 = .ok (.if_icmp .le 7, 3) := by decide +kernel
theorem dX7_isEarlier_40 : decode cX7_isEarlier 40 = .ok (.iconst 1, 1) := by decide +kernel
theorem dX7_isEarlier_41 : decode cX7_isEarlier 41 = .ok (.goto 4, 3) := by decide +kernel
theorem dX7_isEarlier_44 : decode cX7_isEarlier 44 = .ok (.iconst 0, 1) := by decide +kernel
theorem dX7_isEarlier_45 : decode cX7_isEarlier 45 = .ok (.ireturn, 1) := by decide +kernel
theorem dX7_isEarlier_46 : decode cX7_isEarlier 46 = .ok (.iinc 1 1, 3) := by decide +kernel
theorem dX7_isEarlier_49 : decode cX7_isEarlier 49 = .ok (.goto (-47), 3) := by decide +kernel
theorem dX7_isEarlier_52 : decode cX7_isEarlier 52 = .ok (.iconst 0, 1) := by decide +kernel
theorem dX7_isEarlier_53 : decode cX7_isEarlier 53 = .ok (.ireturn, 1) := by decide +kernel
theorem dX7_phasesNow_0 : decode cX7_phasesNow 0 = .ok (.aload_n 0, 1) := by decide +kernel
theorem dX7_phasesNow_1 : decode cX7_phasesNow 1 = .ok (.invokevirtual 198, 3) := by decide +kernel
theorem dX7_phasesNow_4 : decode cX7_phasesNow 4 = .ok (.ifCond .eq 11, 3) := by decide +kernel
theorem dX7_phasesNow_7 : decode cX7_phasesNow 7 = .ok (.iload_n 1, 1) := by decide +kernel
theorem dX7_phasesNow_8 : decode cX7_phasesNow 8 = .ok (.aload_n 0, 1) := by decide +kernel
theorem dX7_phasesNow_9 : decode cX7_phasesNow 9 = .ok (.getfield 95, 3) := by decide +kernel
theorem dX7_phasesNow_12 : decode cX7_phasesNow 12 = .ok (.if_icmp .le 6, 3) := by decide +kernel
theorem dX7_phasesNow_15 : decode cX7_phasesNow 15 = .ok (.bipush (-3), 2) := by decide +kernel
theorem dX7_phasesNow_17 : decode cX7_phasesNow 17 = .ok (.ireturn, 1) := by decide +kernel
theorem dX7_phasesNow_18 : decode cX7_phasesNow 18 = .ok (.ldc 159, 2) := by decide +kernel
theorem dX7_phasesNow_20 : decode cX7_phasesNow 20 = .ok (.istore_n 3, 1) := by decide +kernel
theorem dX7_phasesNow_21 : decode cX7_phasesNow 21 = .ok (.iconst 0, 1) := by decide +kernel
theorem dX7_phasesNow_22 : decode cX7_phasesNow 22 = .ok (.istore 4, 2) := by decide +kernel
theorem dX7_phasesNow_24 : decode cX7_phasesNow 24 = .ok (.iload 4, 2) := by decide +kernel
theorem dX7_phasesNow_26 : decode cX7_phasesNow 26 = .ok (.iconst 1, 1) := by decide +kernel
theorem dX7_phasesNow_27 : decode cX7_phasesNow 27 = .ok (.aload_n 0, 1) := by decide +kernel
theorem dX7_phasesNow_28 : decode cX7_phasesNow 28 = .ok (.getfield 95, 3) := by decide +kernel
theorem dX7_phasesNow_31 : decode cX7_phasesNow 31 = .ok (.iconst 1, 1) := by decide +kernel
theorem dX7_phasesNow_32 : decode cX7_phasesNow 32 = .ok (.isub, 1) := by decide +kernel
theorem dX7_phasesNow_33 : decode cX7_phasesNow 33 = .ok (.ishl, 1) := by decide +kernel
theorem dX7_phasesNow_34 : decode cX7_phasesNow 34 = .ok (.if_icmp .ge 131, 3) := by decide +kernel
theorem dX7_phasesNow_37 : decode cX7_phasesNow 37 = .ok (.iload 4, 2) := by decide +kernel
theorem dX7_phasesNow_39 : decode cX7_phasesNow 39 = .ok (.invokestatic 189, 3) := by decide +kernel
theorem dX7_phasesNow_42 : decode cX7_phasesNow 42 = .ok (.iload_n 1, 1) := by decide +kernel
theorem dX7_phasesNow_43 : decode cX7_phasesNow 43 = .ok (.iconst 1, 1) := by decide +kernel
theorem dX7_phasesNow_44 : decode cX7_phasesNow 44 = .ok (.isub, 1) := by decide +kernel
theorem dX7_phasesNow_45 : decode cX7_phasesNow 45 = .ok (.if_icmp .ne 114, 3) := by decide +kernel
theorem dX7_phasesNow_48 : decode cX7_phasesNow 48 = .ok (.aload_n 0, 1) := by decide +kernel
theorem dX7_phasesNow_49 : decode cX7_phasesNow 49 = .ok (.getfield 71, 3) := by decide +kernel
theorem dX7_phasesNow_52 : decode cX7_phasesNow 52 = .ok (.iconst 0, 1) := by decide +kernel
theorem dX7_phasesNow_53 : decode cX7_phasesNow 53 = .ok (.iconst 0, 1) := by decide +kernel
theorem dX7_phasesNow_54 : decode cX7_phasesNow 54 = .ok (.iastore, 1) := by decide +kernel
theorem dX7_phasesNow_55 : decode cX7_phasesNow 55 = .ok (.iconst 1, 1) := by decide +kernel
theorem dX7_phasesNow_56 : decode cX7_phasesNow 56 = .ok (.istore 5, 2) := by decide +kernel
theorem dX7_phasesNow_58 : decode cX7_phasesNow 58 = .ok (.iload 5, 2) := by decide +kernel
theorem dX7_phasesNow_60 : decode cX7_phasesNow 60 = .ok (.aload_n 0, 1) := by decide +kernel
theorem dX7_phasesNow_61 : decode cX7_phasesNow 61 = .ok (.getfield 95, 3) := by decide +kernel
theorem dX7_phasesNow_64 : decode cX7_phasesNow 64 = .ok (.if_icmp .ge 35, 3) := by decide +kernel
theorem dX7_phasesNow_67 : decode cX7_phasesNow 67 = .ok (.aload_n 0, 1) := by decide +kernel
theorem dX7_phasesNow_68 : decode cX7_phasesNow 68 = .ok (.getfield 71, 3) := by decide +kernel
theorem dX7_phasesNow_71 : decode cX7_phasesNow 71 = .ok (.iload 5, 2) := by decide +kernel
theorem dX7_phasesNow_73 : decode cX7_phasesNow 73 = .ok (.aload_n 0, 1) := by decide +kernel
theorem dX7_phasesNow_74 : decode cX7_phasesNow 74 = .ok (.getfield 71, 3) := by decide +kernel
theorem dX7_phasesNow_77 : decode cX7_phasesNow 77 = .ok (.iload 5, 2) := by decide +kernel
theorem dX7_phasesNow_79 : decode cX7_phasesNow 79 = .ok (.iconst 1, 1) := by decide +kernel
theorem dX7_phasesNow_80 : decode cX7_phasesNow 80 = .ok (.isub, 1) := by decide +kernel
theorem dX7_phasesNow_81 : decode cX7_phasesNow 81 = .ok (.iaload, 1) := by decide +kernel
theorem dX7_phasesNow_82 : decode cX7_phasesNow 82 = .ok (.iload 4, 2) := by decide +kernel
theorem dX7_phasesNow_84 : decode cX7_phasesNow 84 = .ok (.iload 5, 2) := by decide +kernel
theorem dX7_phasesNow_86 : decode cX7_phasesNow 86 = .ok (.iconst 1, 1) := by decide +kernel
theorem dX7_phasesNow_87 : decode cX7_phasesNow 87 = .ok (.isub, 1) := by decide +kernel
theorem dX7_phasesNow_88 : decode cX7_phasesNow 88 = .ok (.ishr, 1) := by decide +kernel
theorem dX7_phasesNow_89 : decode cX7_phasesNow 89 = .ok (.iconst 1, 1) := by decide +kernel
theorem dX7_phasesNow_90 : decode cX7_phasesNow 90 = .ok (.iand, 1) := by decide +kernel
theorem dX7_phasesNow_91 : decode cX7_phasesNow 91 = .ok (.iadd, 1) := by decide +kernel
theorem dX7_phasesNow_92 : decode cX7_phasesNow 92 = .ok (.iastore, 1) := by decide +kernel
theorem dX7_phasesNow_93 : decode cX7_phasesNow 93 = .ok (.iinc 5 1, 3) := by decide +kernel
theorem dX7_phasesNow_96 : decode cX7_phasesNow 96 = .ok (.goto (-38), 3) := by decide +kernel
theorem dX7_phasesNow_99 : decode cX7_phasesNow 99 = .ok (.aload_n 0, 1) := by decide +kernel
theorem dX7_phasesNow_100 : decode cX7_phasesNow 100 = .ok (.invokevirtual 234, 3) := by decide +kernel
theorem dX7_phasesNow_103 : decode cX7_phasesNow 103 = .ok (.istore 5, 2) := by decide +kernel
theorem dX7_phasesNow_105 : decode cX7_phasesNow 105 = .ok (.iload 5, 2) := by decide +kernel
theorem dX7_phasesNow_107 : decode cX7_phasesNow 107 = .ok (.iload_n 3, 1) := by decide +kernel
theorem dX7_phasesNow_108 : decode cX7_phasesNow 108 = .ok (.if_icmp .lt 16, 3) := by decide +kernel
theorem dX7_phasesNow_111 : decode cX7_phasesNow 111 = .ok (.iload 5, 2) := by decide +kernel
theorem dX7_phasesNow_113 : decode cX7_phasesNow 113 = .ok (.iload_n 3, 1) := by decide +kernel
theorem dX7_phasesNow_114 : decode cX7_phasesNow 114 = .ok (.if_icmp .ne 45, 3) := by decide +kernel
theorem dX7_phasesNow_117 : decode cX7_phasesNow 117 = .ok (.aload_n 0, 1) := by decide +kernel
theorem dX7_phasesNow_118 : decode cX7_phasesNow 118 = .ok (.invokevirtual 237, 3) := by decide +kernel
theorem dX7_phasesNow_121 : decode cX7_phasesNow 121 = .ok (.ifCond .eq 38, 3) := by decide +kernel
theorem dX7_phasesNow_124 : decode cX7_phasesNow 124 = .ok (.iload 5, 2) := by decide +kernel
theorem dX7_phasesNow_126 : decode cX7_phasesNow 126 = .ok (.istore_n 3, 1) := by decide +kernel
theorem dX7_phasesNow_127 : decode cX7_phasesNow 127 = .ok (.iconst 0, 1) := by decide +kernel
