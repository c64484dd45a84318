theorem dX7_phasesNow_128 : decode cX7_phasesNow 128 = .ok (.istore 6, 2) := by decide +kernel
theorem dX7_phasesNow_130 : decode cX7_phasesNow 130 = .ok (.iload 6, 2) := by decide +kernel
theorem dX7_phasesNow_132 : decode cX7_phasesNow 132 = .ok (.aload_n 0, 1) := by decide +kernel
theorem dX7_phasesNow_133 : decode cX7_phasesNow 133 = .ok (.getfield 95, 3) := by decide +kernel
theorem dX7_phasesNow_136 : decode cX7_phasesNow 136 = .ok (.if_icmp .ge 23, 3) := by decide +kernel
theorem dX7_phasesNow_139 : decode cX7_phasesNow 139 = .ok (.aload_n 0, 1) := by decide +kernel
theorem dX7_phasesNow_140 : decode cX7_phasesNow 140 = .ok (.getfield 74, 3) := by decide +kernel
theorem dX7_phasesNow_143 : decode cX7_phasesNow 143 = .ok (.iload 6, 2) := by decide +kernel
theorem dX7_phasesNow_145 : decode cX7_phasesNow 145 = .ok (.aload_n 0, 1) := by decide +kernel
theorem dX7_phasesNow_146 : decode cX7_phasesNow 146 = .ok (.getfield 71, 3) := by decide +kernel
theorem dX7_phasesNow_149 : decode cX7_phasesNow 149 = .ok (.iload 6, 2) := by decide +kernel
theorem dX7_phasesNow_151 : decode cX7_phasesNow 151 = .ok (.iaload, 1) := by decide +kernel
theorem dX7_phasesNow_152 : decode cX7_phasesNow 152 = .ok (.iastore, 1) := by decide +kernel
theorem dX7_phasesNow_153 : decode cX7_phasesNow 153 = .ok (.iinc 6 1, 3) := by decide +kernel
theorem dX7_phasesNow_156 : decode cX7_phasesNow 156 = .ok (.goto (-26), 3) := by decide +kernel
theorem dX7_phasesNow_159 : decode cX7_phasesNow 159 = .ok (.iinc 4 1, 3) := by decide +kernel
theorem dX7_phasesNow_162 : decode cX7_phasesNow 162 = .ok (.goto (-138), 3) := by decide +kernel
theorem dX7_phasesNow_165 : decode cX7_phasesNow 165 = .ok (.iload_n 2, 1) := by decide +kernel
theorem dX7_phasesNow_166 : decode cX7_phasesNow 166 = .ok (.iconst (-1), 1) := by decide +kernel
theorem dX7_phasesNow_167 : decode cX7_phasesNow 167 = .ok (.if_icmp .ne 5, 3) := by decide +kernel
theorem dX7_phasesNow_170 : decode cX7_phasesNow 170 = .ok (.iload_n 3, 1) := by decide +kernel
theorem dX7_phasesNow_171 : decode cX7_phasesNow 171 = .ok (.ireturn, 1) := by decide +kernel
theorem dX7_phasesNow_172 : decode cX7_phasesNow 172 = .ok (.iconst 0, 1) := by decide +kernel
theorem dX7_phasesNow_173 : decode cX7_phasesNow 173 = .ok (.istore 4, 2) := by decide +kernel
theorem dX7_phasesNow_175 : decode cX7_phasesNow 175 = .ok (.iconst 0, 1) := by decide +kernel
theorem dX7_phasesNow_176 : decode cX7_phasesNow 176 = .ok (.istore 5, 2) := by decide +kernel
theorem dX7_phasesNow_178 : decode cX7_phasesNow 178 = .ok (.iload 5, 2) := by decide +kernel
theorem dX7_phasesNow_180 : decode cX7_phasesNow 180 = .ok (.aload_n 0, 1) := by decide +kernel
theorem dX7_phasesNow_181 : decode cX7_phasesNow 181 = .ok (.getfield 95, 3) := by decide +kernel
theorem dX7_phasesNow_184 : decode cX7_phasesNow 184 = .ok (.if_icmp .ge 34, 3) := by decide +kernel
theorem dX7_phasesNow_187 : decode cX7_phasesNow 187 = .ok (.aload_n 0, 1) := by decide +kernel
theorem dX7_phasesNow_188 : decode cX7_phasesNow 188 = .ok (.getfield 62, 3) := by decide +kernel
theorem dX7_phasesNow_191 : decode cX7_phasesNow 191 = .ok (.iload 5, 2) := by decide +kernel
theorem dX7_phasesNow_193 : decode cX7_phasesNow 193 = .ok (.iaload, 1) := by decide +kernel
theorem dX7_phasesNow_194 : decode cX7_phasesNow 194 = .ok (.iload_n 2, 1) := by decide +kernel
theorem dX7_phasesNow_195 : decode cX7_phasesNow 195 = .ok (.if_icmp .ne 13, 3) := by decide +kernel
theorem dX7_phasesNow_198 : decode cX7_phasesNow 198 = .ok (.aload_n 0, 1) := by decide +kernel
theorem dX7_phasesNow_199 : decode cX7_phasesNow 199 = .ok (.getfield 74, 3) := by decide +kernel
theorem dX7_phasesNow_202 : decode cX7_phasesNow 202 = .ok (.iload 5, 2) := by decide +kernel
theorem dX7_phasesNow_204 : decode cX7_phasesNow 204 = .ok (.iaload, 1) := by decide +kernel
theorem dX7_phasesNow_205 : decode cX7_phasesNow 205 = .ok (.goto 5, 3) := by decide +kernel
theorem dX7_phasesNow_208 : decode cX7_phasesNow 208 = .ok (.iload 4, 2) := by decide +kernel
theorem dX7_phasesNow_210 : decode cX7_phasesNow 210 = .ok (.istore 4, 2) := by decide +kernel
theorem dX7_phasesNow_212 : decode cX7_phasesNow 212 = .ok (.iinc 5 1, 3) := by decide +kernel
theorem dX7_phasesNow_215 : decode cX7_phasesNow 215 = .ok (.goto (-37), 3) := by decide +kernel
theorem dX7_phasesNow_218 : decode cX7_phasesNow 218 = .ok (.iload 4, 2) := by decide +kernel
theorem dX7_phasesNow_220 : decode cX7_phasesNow 220 = .ok (.ireturn, 1) := by decide +kernel
theorem dX7_phases_0 : decode cX7_phases 0 = .ok (.iload_n 1, 1) := by decide +kernel
theorem dX7_phases_1 : decode cX7_phases 1 = .ok (.iconst 1, 1) := by decide +kernel
theorem dX7_phases_2 : decode cX7_phases 2 = .ok (.bipush 8, 2) := by decide +kernel
theorem dX7_phases_4 : decode cX7_phases 4 = .ok (.invokestatic 98, 3) := by decide +kernel
theorem dX7_phases_7 : decode cX7_phases 7 = .ok (.ifCond .eq 25, 3) := by decide +kernel
theorem dX7_phases_10 : decode cX7_phases 10 = .ok (.iload_n 2, 1) := by decide +kernel
theorem dX7_phases_11 : decode cX7_phases 11 = .ok (.iconst (-1), 1) := by decide +kernel
theorem dX7_phases_12 : decode cX7_phases 12 = .ok (.if_icmp .eq 11, 3) := by decide +kernel
theorem dX7_phases_15 : decode cX7_phases 15 = .ok (.aload_n 0, 1) := by decide +kernel
theorem dX7_phases_16 : decode cX7_phases 16 = .ok (.iload_n 2, 1) := by decide +kernel
theorem dX7_phases_17 : decode cX7_phases 17 = .ok (.invokevirtual 106, 3) := by decide +kernel
theorem dX7_phases_20 : decode cX7_phases 20 = .ok (.ifCond .eq 12, 3) := by decide +kernel
theorem dX7_phases_23 : decode cX7_phases 23 = .ok (.aload_n 0, 1) := by decide +kernel
theorem dX7_phases_24 : decode cX7_phases 24 = .ok (.iload_n 1, 1) := by decide +kernel
theorem dX7_phases_25 : decode cX7_phases 25 = .ok (.iload_n 2, 1) := by decide +kernel
theorem dX7_phases_26 : decode cX7_phases 26 = .ok (.invokevirtual 240, 3) := by decide +kernel
theorem dX7_phases_29 : decode cX7_phases 29 = .ok (.goto 5, 3) := by decide +kernel
theorem dX7_phases_32 : decode cX7_phases 32 = .ok (.bipush (-2), 2) := by decide +kernel
theorem dX7_phases_34 : decode cX7_phases 34 = .ok (.ireturn, 1) := by decide +kernel
theorem dX7_yearOf_0 : decode cX7_yearOf 0 = .ok (.iload_n 2, 1) := by decide +kernel
theorem dX7_yearOf_1 : decode cX7_yearOf 1 = .ok (.ifCond .ne 7, 3) := by decide +kernel
theorem dX7_yearOf_4 : decode cX7_yearOf 4 = .ok (.iconst 0, 1) := by decide +kernel
theorem dX7_yearOf_5 : decode cX7_yearOf 5 = .ok (.goto 5, 3) := by decide +kernel
theorem dX7_yearOf_8 : decode cX7_yearOf 8 = .ok (.bipush 99, 2) := by decide +kernel
theorem dX7_yearOf_10 : decode cX7_yearOf 10 = .ok (.istore_n 3, 1) := by decide +kernel
theorem dX7_yearOf_11 : decode cX7_yearOf 11 = .ok (.iconst 1, 1) := by decide +kernel
theorem dX7_yearOf_12 : decode cX7_yearOf 12 = .ok (.istore 4, 2) := by decide +kernel
theorem dX7_yearOf_14 : decode cX7_yearOf 14 = .ok (.iconst 0, 1) := by decide +kernel
theorem dX7_yearOf_15 : decode cX7_yearOf 15 = .ok (.istore 5, 2) := by decide +kernel
theorem dX7_yearOf_17 : decode cX7_yearOf 17 = .ok (.iload 5, 2) := by decide +kernel
theorem dX7_yearOf_19 : decode cX7_yearOf 19 = .ok (.aload_n 0, 1) := by decide +kernel
theorem dX7_yearOf_20 : decode cX7_yearOf 20 = .ok (.getfield 95, 3) := by decide +kernel
theorem dX7_yearOf_23 : decode cX7_yearOf 23 = .ok (.if_icmp .ge 104, 3) := by decide +kernel
theorem dX7_yearOf_26 : decode cX7_yearOf 26 = .ok (.iload 4, 2) := by decide +kernel
theorem dX7_yearOf_28 : decode cX7_yearOf 28 = .ok (.ifCond .eq 99, 3) := by decide +kernel
theorem dX7_yearOf_31 : decode cX7_yearOf 31 = .ok (.aload_n 0, 1) := by decide +kernel
theorem dX7_yearOf_32 : decode cX7_yearOf 32 = .ok (.getfield 62, 3) := by decide +kernel
theorem dX7_yearOf_35 : decode cX7_yearOf 35 = .ok (.iload_n 2, 1) := by decide +kernel
theorem dX7_yearOf_36 : decode cX7_yearOf 36 = .ok (.ifCond .ne 8, 3) := by decide +kernel
theorem dX7_yearOf_39 : decode cX7_yearOf 39 = .ok (.iload 5, 2) := by decide +kernel
theorem dX7_yearOf_41 : decode cX7_yearOf 41 = .ok (.goto 12, 3) := by decide +kernel
theorem dX7_yearOf_44 : decode cX7_yearOf 44 = .ok (.aload_n 0, 1) := by decide +kernel
theorem dX7_yearOf_45 : decode cX7_yearOf 45 = .ok (.getfield 95, 3) := by decide +kernel
theorem dX7_yearOf_48 : decode cX7_yearOf 48 = .ok (.iconst 1, 1) := by decide +kernel
theorem dX7_yearOf_49 : decode cX7_yearOf 49 = .ok (.isub, 1) := by decide +kernel
theorem dX7_yearOf_50 : decode cX7_yearOf 50 = .ok (.iload 5, 2) := by decide +kernel
theorem dX7_yearOf_52 : decode cX7_yearOf 52 = .ok (.isub, 1) := by decide +kernel
theorem dX7_yearOf_53 : decode cX7_yearOf 53 = .ok (.iaload, 1) := by decide +kernel
theorem dX7_yearOf_54 : decode cX7_yearOf 54 = .ok (.istore 6, 2) := by decide +kernel
theorem dX7_yearOf_56 : decode cX7_yearOf 56 = .ok (.iload_n 2, 1) := by decide +kernel
theorem dX7_yearOf_57 : decode cX7_yearOf 57 = .ok (.ifCond .ne 28, 3) := by decide +kernel
theorem dX7_yearOf_60 : decode cX7_yearOf 60 = .ok (.aload_n 0, 1) := by decide +kernel
theorem dX7_yearOf_61 : decode cX7_yearOf 61 = .ok (.getfield 7, 3) := by decide +kernel
theorem dX7_yearOf_64 : decode cX7_yearOf 64 = .ok (.iload 6, 2) := by decide +kernel
theorem dX7_yearOf_66 : decode cX7_yearOf 66 = .ok (.iaload, 1) := by decide +kernel
theorem dX7_yearOf_67 : decode cX7_yearOf 67 = .ok (.iload_n 3, 1) := by decide +kernel
theorem dX7_yearOf_68 : decode cX7_yearOf 68 = .ok (.if_icmp .le 13, 3) := by decide +kernel
theorem dX7_yearOf_71 : decode cX7_yearOf 71 = .ok (.aload_n 0, 1) := by decide +kernel
theorem dX7_yearOf_72 : decode cX7_yearOf 72 = .ok (.getfield 7, 3) := by decide +kernel
theorem dX7_yearOf_75 : decode cX7_yearOf 75 = .ok (.iload 6, 2) := by decide +kernel
theorem dX7_yearOf_77 : decode cX7_yearOf 77 = .ok (.iaload, 1) := by decide +kernel
theorem dX7_yearOf_78 : decode cX7_yearOf 78 = .ok (.goto 29, 3) := by decide +kernel
theorem dX7_yearOf_81 : decode cX7_yearOf 81 = .ok (.iload_n 3, 1) := by decide +kernel
theorem dX7_yearOf_82 : decode cX7_yearOf 82 = .ok (.goto 25, 3) := by decide +kernel
theorem dX7_yearOf_85 : decode cX7_yearOf 85 = .ok (.aload_n 0, 1) := by decide +kernel
theorem dX7_yearOf_86 : decode cX7_yearOf 86 = .ok (.getfield 13, 3) := by decide +kernel
theorem dX7_yearOf_89 : decode cX7_yearOf 89 = .ok (.iload 6, 2) := by decide +kernel
theorem dX7_yearOf_91 : decode cX7_yearOf 91 = .ok (.iaload, 1) := by decide +kernel
theorem dX7_yearOf_92 : decode cX7_yearOf 92 = .ok (.iload_n 3, 1) := by decide +kernel
theorem dX7_yearOf_93 : decode cX7_yearOf 93 = .ok (.if_icmp .ge 13, 3) := by decide +kernel
theorem dX7_yearOf_96 : decode cX7_yearOf 96 = .ok (.aload_n 0, 1) := by decide +kernel
theorem dX7_yearOf_97 : decode cX7_yearOf 97 = .ok (.getfield 13, 3) := by decide +kernel
theorem dX7_yearOf_100 : decode cX7_yearOf 100 = .ok (.iload 6, 2) := by decide +kernel
theorem dX7_yearOf_102 : decode cX7_yearOf 102 = .ok (.iaload, 1) := by decide +kernel
theorem dX7_yearOf_103 : decode cX7_yearOf 103 = .ok (.goto 4, 3) := by decide +kernel
theorem dX7_yearOf_106 : decode cX7_yearOf 106 = .ok (.iload_n 3, 1) := by decide +kernel
theorem dX7_yearOf_107 : decode cX7_yearOf 107 = .ok (.istore_n 3, 1) := by decide +kernel
theorem dX7_yearOf_108 : decode cX7_yearOf 108 = .ok (.iload 6, 2) := by decide +kernel
theorem dX7_yearOf_110 : decode cX7_yearOf 110 = .ok (.iload_n 1, 1) := by decide +kernel
theorem dX7_yearOf_111 : decode cX7_yearOf 111 = .ok (.if_icmp .eq 7, 3) := by decide +kernel
theorem dX7_yearOf_114 : decode cX7_yearOf 114 = .ok (.iconst 1, 1) := by decide +kernel
theorem dX7_yearOf_115 : decode cX7_yearOf 115 = .ok (.goto 4, 3) := by decide +kernel
theorem dX7_yearOf_118 : decode cX7_yearOf 118 = .ok (.iconst 0, 1) := by decide +kernel
theorem dX7_yearOf_119 : decode cX7_yearOf 119 = .ok (.istore 4, 2) := by decide +kernel
theorem dX7_yearOf_121 : decode cX7_yearOf 121 = .ok (.iinc 5 1, 3) := by decide +kernel
theorem dX7_yearOf_124 : decode cX7_yearOf 124 = .ok (.goto (-107), 3) := by decide +kernel
theorem dX7_yearOf_127 : decode cX7_yearOf 127 = .ok (.iload_n 3, 1) := by decide +kernel
theorem dX7_yearOf_128 : decode cX7_yearOf 128 = .ok (.ireturn, 1) := by decide +kernel
theorem dX7_graveYear_0 : decode cX7_graveYear 0 = .ok (.aload_n 0, 1) := by decide +kernel
theorem dX7_graveYear_1 : decode cX7_graveYear 1 = .ok (.invokevirtual 198, 3) := by decide +kernel
theorem dX7_graveYear_4 : decode cX7_graveYear 4 = .ok (.ifCond .eq 12, 3) := by decide +kernel
theorem dX7_graveYear_7 : decode cX7_graveYear 7 = .ok (.aload_n 0, 1) := by decide +kernel
theorem dX7_graveYear_8 : decode cX7_graveYear 8 = .ok (.iload_n 1, 1) := by decide +kernel
theorem dX7_graveYear_9 : decode cX7_graveYear 9 = .ok (.iload_n 2, 1) := by decide +kernel
theorem dX7_graveYear_10 : decode cX7_graveYear 10 = .ok (.invokevirtual 243, 3) := by decide +kernel
theorem dX7_graveYear_13 : decode cX7_graveYear 13 = .ok (.goto 5, 3) := by decide +kernel
theorem dX7_graveYear_16 : decode cX7_graveYear 16 = .ok (.bipush (-3), 2) := by decide +kernel
theorem dX7_graveYear_18 : decode cX7_graveYear 18 = .ok (.ireturn, 1) := by decide +kernel
theorem dX7_years_0 : decode cX7_years 0 = .ok (.iload_n 1, 1) := by decide +kernel
theorem dX7_years_1 : decode cX7_years 1 = .ok (.iconst 0, 1) := by decide +kernel
theorem dX7_years_2 : decode cX7_years 2 = .ok (.iconst 1, 1) := by decide +kernel
theorem dX7_years_3 : decode cX7_years 3 = .ok (.invokestatic 98, 3) := by decide +kernel
theorem dX7_years_6 : decode cX7_years 6 = .ok (.ifCond .eq 34, 3) := by decide +kernel
theorem dX7_years_9 : decode cX7_years 9 = .ok (.iload_n 1, 1) := by decide +kernel
theorem dX7_years_10 : decode cX7_years 10 = .ok (.ifCond .ne 14, 3) := by decide +kernel
theorem dX7_years_13 : decode cX7_years 13 = .ok (.aload_n 0, 1) := by decide +kernel
theorem dX7_years_14 : decode cX7_years 14 = .ok (.iload_n 2, 1) := by decide +kernel
theorem dX7_years_15 : decode cX7_years 15 = .ok (.invokevirtual 106, 3) := by decide +kernel
theorem dX7_years_18 : decode cX7_years 18 = .ok (.ifCond .eq 22, 3) := by decide +kernel
theorem dX7_years_21 : decode cX7_years 21 = .ok (.goto 10, 3) := by decide +kernel
theorem dX7_years_24 : decode cX7_years 24 = .ok (.iload_n 2, 1) := by decide +kernel
theorem dX7_years_25 : decode cX7_years 25 = .ok (.invokestatic 113, 3) := by decide +kernel
theorem dX7_years_28 : decode cX7_years 28 = .ok (.ifCond .eq 12, 3) := by decide +kernel
theorem dX7_years_31 : decode cX7_years 31 = .ok (.iload_n 3, 1) := by decide +kernel
theorem dX7_years_32 : decode cX7_years 32 = .ok (.iconst 0, 1) := by decide +kernel
theorem dX7_years_33 : decode cX7_years 33 = .ok (.iconst 1, 1) := by decide +kernel
theorem dX7_years_34 : decode cX7_years 34 = .ok (.invokestatic 98, 3) := by decide +kernel
theorem dX7_years_37 : decode cX7_years 37 = .ok (.ifCond .ne 6, 3) := by decide +kernel
theorem dX7_years_40 : decode cX7_years 40 = .ok (.bipush (-2), 2) := by decide +kernel
theorem dX7_years_42 : decode cX7_years 42 = .ok (.ireturn, 1) := by decide +kernel
theorem dX7_years_43 : decode cX7_years 43 = .ok (.iload_n 1, 1) := by decide +kernel
theorem dX7_years_44 : decode cX7_years 44 = .ok (.ifCond .ne 10, 3) := by decide +kernel
theorem dX7_years_47 : decode cX7_years 47 = .ok (.aload_n 0, 1) := by decide +kernel
theorem dX7_years_48 : decode cX7_years 48 = .ok (.iload_n 2, 1) := by decide +kernel
theorem dX7_years_49 : decode cX7_years 49 = .ok (.iload_n 3, 1) := by decide +kernel
theorem dX7_years_50 : decode cX7_years 50 = .ok (.invokevirtual 246, 3) := by decide +kernel
theorem dX7_years_53 : decode cX7_years 53 = .ok (.ireturn, 1) := by decide +kernel
theorem dX7_years_54 : decode cX7_years 54 = .ok (.bipush (-3), 2) := by decide +kernel
theorem dX7_years_56 : decode cX7_years 56 = .ok (.istore 4, 2) := by decide +kernel
theorem dX7_years_58 : decode cX7_years 58 = .ok (.iconst 0, 1) := by decide +kernel
theorem dX7_years_59 : decode cX7_years 59 = .ok (.istore 5, 2) := by decide +kernel
theorem dX7_years_61 : decode cX7_years 61 = .ok (.iload 5, 2) := by decide +kernel
theorem dX7_years_63 : decode cX7_years 63 = .ok (.aload_n 0, 1) := by decide +kernel
theorem dX7_years_64 : decode cX7_years 64 = .ok (.getfield 95, 3) := by decide +kernel
theorem dX7_years_67 : decode cX7_years 67 = .ok (.if_icmp .ge 76, 3) := by decide +kernel
theorem dX7_years_70 : decode cX7_years 70 = .ok (.aload_n 0, 1) := by decide +kernel
theorem dX7_years_71 : decode cX7_years 71 = .ok (.invokevirtual 198, 3) := by decide +kernel
theorem dX7_years_74 : decode cX7_years 74 = .ok (.ifCond .eq 69, 3) := by decide +kernel
theorem dX7_years_77 : decode cX7_years 77 = .ok (.aload_n 0, 1) := by decide +kernel
theorem dX7_years_78 : decode cX7_years 78 = .ok (.getfield 53, 3) := by decide +kernel
theorem dX7_years_81 : decode cX7_years 81 = .ok (.iload 5, 2) := by decide +kernel
theorem dX7_years_83 : decode cX7_years 83 = .ok (.iaload, 1) := by decide +kernel
theorem dX7_years_84 : decode cX7_years 84 = .ok (.iload_n 2, 1) := by decide +kernel
theorem dX7_years_85 : decode cX7_years 85 = .ok (.invokestatic 152, 3) := by decide +kernel
theorem dX7_years_88 : decode cX7_years 88 = .ok (.ifCond .eq 49, 3) := by decide +kernel
theorem dX7_years_91 : decode cX7_years 91 = .ok (.aload_n 0, 1) := by decide +kernel
theorem dX7_years_92 : decode cX7_years 92 = .ok (.iload 5, 2) := by decide +kernel
theorem dX7_years_94 : decode cX7_years 94 = .ok (.iload_n 3, 1) := by decide +kernel
theorem dX7_years_95 : decode cX7_years 95 = .ok (.invokevirtual 243, 3) := by decide +kernel
theorem dX7_years_98 : decode cX7_years 98 = .ok (.istore 6, 2) := by decide +kernel
theorem dX7_years_100 : decode cX7_years 100 = .ok (.iload 4, 2) := by decide +kernel
theorem dX7_years_102 : decode cX7_years 102 = .ok (.bipush (-3), 2) := by decide +kernel
theorem dX7_years_104 : decode cX7_years 104 = .ok (.if_icmp .eq 24, 3) := by decide +kernel
theorem dX7_years_107 : decode cX7_years 107 = .ok (.iload_n 3, 1) := by decide +kernel
theorem dX7_years_108 : decode cX7_years 108 = .ok (.ifCond .ne 13, 3) := by decide +kernel
theorem dX7_years_111 : decode cX7_years 111 = .ok (.iload 6, 2) := by decide +kernel
theorem dX7_years_113 : decode cX7_years 113 = .ok (.iload 4, 2) := by decide +kernel
theorem dX7_years_115 : decode cX7_years 115 = .ok (.if_icmp .ge 18, 3) := by decide +kernel
theorem dX7_years_118 : decode cX7_years 118 = .ok (.goto 10, 3) := by decide +kernel
theorem dX7_years_121 : decode cX7_years 121 = .ok (.iload 6, 2) := by decide +kernel
theorem dX7_years_123 : decode cX7_years 123 = .ok (.iload 4, 2) := by decide +kernel
theorem dX7_years_125 : decode cX7_years 125 = .ok (.if_icmp .le 8, 3) := by decide +kernel
theorem dX7_years_128 : decode cX7_years 128 = .ok (.iload 6, 2) := by decide +kernel
theorem dX7_years_130 : decode cX7_years 130 = .ok (.goto 5, 3) := by decide +kernel
theorem dX7_years_133 : decode cX7_years 133 = .ok (.iload 4, 2) := by decide +kernel
theorem dX7_years_135 : decode cX7_years 135 = .ok (.istore 4, 2) := by decide +kernel
theorem dX7_years_137 : decode cX7_years 137 = .ok (.iinc 5 1, 3) := by decide +kernel
theorem dX7_years_140 : decode cX7_years 140 = .ok (.goto (-79), 3) := by decide +kernel
theorem dX7_years_143 : decode cX7_years 143 = .ok (.iload 4, 2) := by decide +kernel
theorem dX7_years_145 : decode cX7_years 145 = .ok (.ireturn, 1) := by decide +kernel
theorem dX7_gapsWith_0 : decode cX7_gapsWith 0 = .ok (.iconst 0, 1) := by decide +kernel
theorem dX7_gapsWith_1 : decode cX7_gapsWith 1 = .ok (.istore 4, 2) := by decide +kernel
theorem dX7_gapsWith_3 : decode cX7_gapsWith 3 = .ok (.iconst (-1), 1) := by decide +kernel
theorem dX7_gapsWith_4 : decode cX7_gapsWith 4 = .ok (.istore 5, 2) := by decide +kernel
theorem dX7_gapsWith_6 : decode cX7_gapsWith 6 = .ok (.iconst 0, 1) := by decide +kernel
theorem dX7_gapsWith_7 : decode cX7_gapsWith 7 = .ok (.istore 6, 2) := by decide +kernel
theorem dX7_gapsWith_9 : decode cX7_gapsWith 9 = .ok (.iload 6, 2) := by decide +kernel
theorem dX7_gapsWith_11 : decode cX7_gapsWith 11 = .ok (.aload_n 0, 1) := by decide +kernel
theorem dX7_gapsWith_12 : decode cX7_gapsWith 12 = .ok (.getfield 95, 3) := by decide +kernel
theorem dX7_gapsWith_15 : decode cX7_gapsWith 15 = .ok (.if_icmp .gt 135, 3) := by decide +kernel
theorem dX7_gapsWith_18 : decode cX7_gapsWith 18 = .ok (.iload 6, 2) := by decide +kernel
theorem dX7_gapsWith_20 : decode cX7_gapsWith 20 = .ok (.iload_n 2, 1) := by decide +kernel
theorem dX7_gapsWith_21 : decode cX7_gapsWith 21 = .ok (.if_icmp .ne 7, 3) := by decide +kernel
theorem dX7_gapsWith_24 : decode cX7_gapsWith 24 = .ok (.iconst 1, 1) := by decide +kernel
theorem dX7_gapsWith_25 : decode cX7_gapsWith 25 = .ok (.goto 4, 3) := by decide +kernel
theorem dX7_gapsWith_28 : decode cX7_gapsWith 28 = .ok (.iconst 0, 1) := by decide +kernel
theorem dX7_gapsWith_29 : decode cX7_gapsWith 29 = .ok (.istore 7, 2) := by decide +kernel
theorem dX7_gapsWith_31 : decode cX7_gapsWith 31 = .ok (.iload 7, 2) := by decide +kernel
theorem dX7_gapsWith_33 : decode cX7_gapsWith 33 = .ok (.ifCond .eq 7, 3) := by decide +kernel
theorem dX7_gapsWith_36 : decode cX7_gapsWith 36 = .ok (.iconst 0, 1) := by decide +kernel
theorem dX7_gapsWith_37 : decode cX7_gapsWith 37 = .ok (.goto 23, 3) := by decide +kernel
theorem dX7_gapsWith_40 : decode cX7_gapsWith 40 = .ok (.aload_n 0, 1) := by decide +kernel
theorem dX7_gapsWith_41 : decode cX7_gapsWith 41 = .ok (.getfield 62, 3) := by decide +kernel
theorem dX7_gapsWith_44 : decode cX7_gapsWith 44 = .ok (.iload 6, 2) := by decide +kernel
theorem dX7_gapsWith_46 : decode cX7_gapsWith 46 = .ok (.iload_n 2, 1) := by decide +kernel
theorem dX7_gapsWith_47 : decode cX7_gapsWith 47 = .ok (.if_icmp .ge 8, 3) := by decide +kernel
theorem dX7_gapsWith_50 : decode cX7_gapsWith 50 = .ok (.iload 6, 2) := by decide +kernel
theorem dX7_gapsWith_52 : decode cX7_gapsWith 52 = .ok (.goto 7, 3) := by decide +kernel
theorem dX7_gapsWith_55 : decode cX7_gapsWith 55 = .ok (.iload 6, 2) := by decide +kernel
theorem dX7_gapsWith_57 : decode cX7_gapsWith 57 = .ok (.iconst 1, 1) := by decide +kernel
theorem dX7_gapsWith_58 : decode cX7_gapsWith 58 = .ok (.isub, 1) := by decide +kernel
theorem dX7_gapsWith_59 : decode cX7_gapsWith 59 = .ok (.iaload, 1) := by decide +kernel
theorem dX7_gapsWith_60 : decode cX7_gapsWith 60 = .ok (.istore 8, 2) := by decide +kernel
theorem dX7_gapsWith_62 : decode cX7_gapsWith 62 = .ok (.iload 7, 2) := by decide +kernel
theorem dX7_gapsWith_64 : decode cX7_gapsWith 64 = .ok (.ifCond .eq 10, 3) := by decide +kernel
theorem dX7_gapsWith_67 : decode cX7_gapsWith 67 = .ok (.iload_n 3, 1) := by decide +kernel
theorem dX7_gapsWith_68 : decode cX7_gapsWith 68 = .ok (.ifCond .eq 43, 3) := by decide +kernel
theorem dX7_gapsWith_71 : decode cX7_gapsWith 71 = .ok (.goto 17, 3) := by decide +kernel
theorem dX7_gapsWith_74 : decode cX7_gapsWith 74 = .ok (.aload_n 0, 1) := by decide +kernel
theorem dX7_gapsWith_75 : decode cX7_gapsWith 75 = .ok (.getfield 53, 3) := by decide +kernel
theorem dX7_gapsWith_78 : decode cX7_gapsWith 78 = .ok (.iload 8, 2) := by decide +kernel
theorem dX7_gapsWith_80 : decode cX7_gapsWith 80 = .ok (.iaload, 1) := by decide +kernel
theorem dX7_gapsWith_81 : decode cX7_gapsWith 81 = .ok (.iload_n 1, 1) := by decide +kernel
theorem dX7_gapsWith_82 : decode cX7_gapsWith 82 = .ok (.invokestatic 152, 3) := by decide +kernel
theorem dX7_gapsWith_85 : decode cX7_gapsWith 85 = .ok (.ifCond .eq 26, 3) := by decide +kernel
theorem dX7_gapsWith_88 : decode cX7_gapsWith 88 = .ok (.iload 4, 2) := by decide +kernel
theorem dX7_gapsWith_90 : decode cX7_gapsWith 90 = .ok (.iload 5, 2) := by decide +kernel
theorem dX7_gapsWith_92 : decode cX7_gapsWith 92 = .ok (.iconst (-1), 1) := by decide +kernel
theorem dX7_gapsWith_93 : decode cX7_gapsWith 93 = .ok (.if_icmp .ne 7, 3) := by decide +kernel
theorem dX7_gapsWith_96 : decode cX7_gapsWith 96 = .ok (.iconst 0, 1) := by decide +kernel
theorem dX7_gapsWith_97 : decode cX7_gapsWith 97 = .ok (.goto 5, 3) := by decide +kernel
theorem dX7_gapsWith_100 : decode cX7_gapsWith 100 = .ok (.iload 5, 2) := by decide +kernel
theorem dX7_gapsWith_102 : decode cX7_gapsWith 102 = .ok (.iadd, 1) := by decide +kernel
theorem dX7_gapsWith_103 : decode cX7_gapsWith 103 = .ok (.istore 4, 2) := by decide +kernel
theorem dX7_gapsWith_105 : decode cX7_gapsWith 105 = .ok (.iconst 0, 1) := by decide +kernel
theorem dX7_gapsWith_106 : decode cX7_gapsWith 106 = .ok (.istore 5, 2) := by decide +kernel
theorem dX7_gapsWith_108 : decode cX7_gapsWith 108 = .ok (.goto 36, 3) := by decide +kernel
theorem dX7_gapsWith_111 : decode cX7_gapsWith 111 = .ok (.iload 5, 2) := by decide +kernel
theorem dX7_gapsWith_113 : decode cX7_gapsWith 113 = .ok (.iconst (-1), 1) := by decide +kernel
theorem dX7_gapsWith_114 : decode cX7_gapsWith 114 = .ok (.if_icmp .eq 30, 3) := by decide +kernel
theorem dX7_gapsWith_117 : decode cX7_gapsWith 117 = .ok (.iload 5, 2) := by decide +kernel
theorem dX7_gapsWith_119 : decode cX7_gapsWith 119 = .ok (.iload 7, 2) := by decide +kernel
theorem dX7_gapsWith_121 : decode cX7_gapsWith 121 = .ok (.ifCond .ne 19, 3) := by decide +kernel
theorem dX7_gapsWith_124 : decode cX7_gapsWith 124 = .ok (.aload_n 0, 1) := by decide +kernel
theorem dX7_gapsWith_125 : decode cX7_gapsWith 125 = .ok (.getfield 110, 3) := by decide +kernel
theorem dX7_gapsWith_128 : decode cX7_gapsWith 128 = .ok (.iload 8, 2) := by decide +kernel
theorem dX7_gapsWith_130 : decode cX7_gapsWith 130 = .ok (.invokestatic 152, 3) := by decide +kernel
theorem dX7_gapsWith_133 : decode cX7_gapsWith 133 = .ok (.ifCond .eq 7, 3) := by decide +kernel
theorem dX7_gapsWith_136 : decode cX7_gapsWith 136 = .ok (.iconst 0, 1) := by decide +kernel
theorem dX7_gapsWith_137 : decode cX7_gapsWith 137 = .ok (.goto 4, 3) := by decide +kernel
theorem dX7_gapsWith_140 : decode cX7_gapsWith 140 = .ok (.iconst 1, 1) := by decide +kernel
theorem dX7_gapsWith_141 : decode cX7_gapsWith 141 = .ok (.iadd, 1) := by decide +kernel
theorem dX7_gapsWith_142 : decode cX7_gapsWith 142 = .ok (.istore 5, 2) := by decide +kernel
theorem dX7_gapsWith_144 : decode cX7_gapsWith 144 = .ok (.iinc 6 1, 3) := by decide +kernel
theorem dX7_gapsWith_147 : decode cX7_gapsWith 147 = .ok (.goto (-138), 3) := by decide +kernel
theorem dX7_gapsWith_150 : decode cX7_gapsWith 150 = .ok (.iload 4, 2) := by decide +kernel
theorem dX7_gapsWith_152 : decode cX7_gapsWith 152 = .ok (.ireturn, 1) := by decide +kernel
theorem dX7_fresh_0 : decode cX7_fresh 0 = .ok (.iload_n 1, 1) := by decide +kernel
theorem dX7_fresh_1 : decode cX7_fresh 1 = .ok (.iconst 0, 1) := by decide +kernel
theorem dX7_fresh_2 : decode cX7_fresh 2 = .ok (.sipush 1023, 3) := by decide +kernel
theorem dX7_fresh_5 : decode cX7_fresh 5 = .ok (.invokestatic 98, 3) := by decide +kernel
theorem dX7_fresh_8 : decode cX7_fresh 8 = .ok (.ifCond .eq 12, 3) := by decide +kernel
theorem dX7_fresh_11 : decode cX7_fresh 11 = .ok (.iload_n 2, 1) := by decide +kernel
theorem dX7_fresh_12 : decode cX7_fresh 12 = .ok (.iconst 0, 1) := by decide +kernel
theorem dX7_fresh_13 : decode cX7_fresh 13 = .ok (.iconst 1, 1) := by decide +kernel
theorem dX7_fresh_14 : decode cX7_fresh 14 = .ok (.invokestatic 98, 3) := by decide +kernel
theorem dX7_fresh_17 : decode cX7_fresh 17 = .ok (.ifCond .ne 6, 3) := by decide +kernel
theorem dX7_fresh_20 : decode cX7_fresh 20 = .ok (.bipush (-2), 2) := by decide +kernel
theorem dX7_fresh_22 : decode cX7_fresh 22 = .ok (.ireturn, 1) := by decide +kernel
theorem dX7_fresh_23 : decode cX7_fresh 23 = .ok (.aload_n 0, 1) := by decide +kernel
theorem dX7_fresh_24 : decode cX7_fresh 24 = .ok (.invokevirtual 198, 3) := by decide +kernel
theorem dX7_fresh_27 : decode cX7_fresh 27 = .ok (.ifCond .ne 6, 3) := by decide +kernel
theorem dX7_fresh_30 : decode cX7_fresh 30 = .ok (.bipush (-3), 2) := by decide +kernel
theorem dX7_fresh_32 : decode cX7_fresh 32 = .ok (.ireturn, 1) := by decide +kernel
theorem dX7_fresh_33 : decode cX7_fresh 33 = .ok (.ldc 159, 2) := by decide +kernel
theorem dX7_fresh_35 : decode cX7_fresh 35 = .ok (.istore_n 3, 1) := by decide +kernel
theorem dX7_fresh_36 : decode cX7_fresh 36 = .ok (.iconst 0, 1) := by decide +kernel
theorem dX7_fresh_37 : decode cX7_fresh 37 = .ok (.istore 4, 2) := by decide +kernel
theorem dX7_fresh_39 : decode cX7_fresh 39 = .ok (.iconst 0, 1) := by decide +kernel
theorem dX7_fresh_40 : decode cX7_fresh 40 = .ok (.istore 5, 2) := by decide +kernel
theorem dX7_fresh_42 : decode cX7_fresh 42 = .ok (.iload 5, 2) := by decide +kernel
theorem dX7_fresh_44 : decode cX7_fresh 44 = .ok (.aload_n 0, 1) := by decide +kernel
theorem dX7_fresh_45 : decode cX7_fresh 45 = .ok (.getfield 95, 3) := by decide +kernel
theorem dX7_fresh_48 : decode cX7_fresh 48 = .ok (.if_icmp .gt 101, 3) := by decide +kernel
theorem dX7_fresh_51 : decode cX7_fresh 51 = .ok (.iconst 0, 1) := by decide +kernel
theorem dX7_fresh_52 : decode cX7_fresh 52 = .ok (.istore 6, 2) := by decide +kernel
theorem dX7_fresh_54 : decode cX7_fresh 54 = .ok (.iconst 0, 1) := by decide +kernel
theorem dX7_fresh_55 : decode cX7_fresh 55 = .ok (.istore 7, 2) := by decide +kernel
theorem dX7_fresh_57 : decode cX7_fresh 57 = .ok (.iload 7, 2) := by decide +kernel
theorem dX7_fresh_59 : decode cX7_fresh 59 = .ok (.bipush 10, 2) := by decide +kernel
theorem dX7_fresh_61 : decode cX7_fresh 61 = .ok (.if_icmp .ge 36, 3) := by decide +kernel
theorem dX7_fresh_64 : decode cX7_fresh 64 = .ok (.iload 6, 2) := by decide +kernel
theorem dX7_fresh_66 : decode cX7_fresh 66 = .ok (.aload_n 0, 1) := by decide +kernel
theorem dX7_fresh_67 : decode cX7_fresh 67 = .ok (.getfield 16, 3) := by decide +kernel
theorem dX7_fresh_70 : decode cX7_fresh 70 = .ok (.iload 7, 2) := by decide +kernel
theorem dX7_fresh_72 : decode cX7_fresh 72 = .ok (.iaload, 1) := by decide +kernel
theorem dX7_fresh_73 : decode cX7_fresh 73 = .ok (.aload_n 0, 1) := by decide +kernel
theorem dX7_fresh_74 : decode cX7_fresh 74 = .ok (.iload 7, 2) := by decide +kernel
theorem dX7_fresh_76 : decode cX7_fresh 76 = .ok (.iload 5, 2) := by decide +kernel
theorem dX7_fresh_78 : decode cX7_fresh 78 = .ok (.iload_n 1, 1) := by decide +kernel
theorem dX7_fresh_79 : decode cX7_fresh 79 = .ok (.iload 7, 2) := by decide +kernel
theorem dX7_fresh_81 : decode cX7_fresh 81 = .ok (.invokestatic 152, 3) := by decide +kernel
theorem dX7_fresh_84 : decode cX7_fresh 84 = .ok (.invokevirtual 249, 3) := by decide +kernel
theorem dX7_fresh_87 : decode cX7_fresh 87 = .ok (.imul, 1) := by decide +kernel
theorem dX7_fresh_88 : decode cX7_fresh 88 = .ok (.iadd, 1) := by decide +kernel
theorem dX7_fresh_89 : decode cX7_fresh 89 = .ok (.istore 6, 2) := by decide +kernel
theorem dX7_fresh_91 : decode cX7_fresh 91 = .ok (.iinc 7 1, 3) := by decide +kernel
theorem dX7_fresh_94 : decode cX7_fresh 94 = .ok (.goto (-37), 3) := by decide +kernel
theorem dX7_fresh_97 : decode cX7_fresh 97 = .ok (.iload 6, 2) := by decide +kernel
theorem dX7_fresh_99 : decode cX7_fresh 99 = .ok (.iload_n 3, 1) := by decide +kernel
theorem dX7_fresh_100 : decode cX7_fresh 100 = .ok (.if_icmp .ge 10, 3) := by decide +kernel
theorem dX7_fresh_103 : decode cX7_fresh 103 = .ok (.iconst 1, 1) := by decide +kernel
theorem dX7_fresh_104 : decode cX7_fresh 104 = .ok (.iload 5, 2) := by decide +kernel
theorem dX7_fresh_106 : decode cX7_fresh 106 = .ok (.ishl, 1) := by decide +kernel
theorem dX7_fresh_107 : decode cX7_fresh 107 = .ok (.goto 21, 3) := by decide +kernel
theorem dX7_fresh_110 : decode cX7_fresh 110 = .ok (.iload 6, 2) := by decide +kernel
theorem dX7_fresh_112 : decode cX7_fresh 112 = .ok (.iload_n 3, 1) := by decide +kernel
theorem dX7_fresh_113 : decode cX7_fresh 113 = .ok (.if_icmp .ne 13, 3) := by decide +kernel
theorem dX7_fresh_116 : decode cX7_fresh 116 = .ok (.iload 4, 2) := by decide +kernel
theorem dX7_fresh_118 : decode cX7_fresh 118 = .ok (.iconst 1, 1) := by decide +kernel
theorem dX7_fresh_119 : decode cX7_fresh 119 = .ok (.iload 5, 2) := by decide +kernel
theorem dX7_fresh_121 : decode cX7_fresh 121 = .ok (.ishl, 1) := by decide +kernel
theorem dX7_fresh_122 : decode cX7_fresh 122 = .ok (.ior, 1) := by decide +kernel
theorem dX7_fresh_123 : decode cX7_fresh 123 = .ok (.goto 5, 3) := by decide +kernel
theorem dX7_fresh_126 : decode cX7_fresh 126 = .ok (.iload 4, 2) := by decide +kernel
theorem dX7_fresh_128 : decode cX7_fresh 128 = .ok (.istore 4, 2) := by decide +kernel
theorem dX7_fresh_130 : decode cX7_fresh 130 = .ok (.iload 6, 2) := by decide +kernel
theorem dX7_fresh_132 : decode cX7_fresh 132 = .ok (.iload_n 3, 1) := by decide +kernel
theorem dX7_fresh_133 : decode cX7_fresh 133 = .ok (.if_icmp .ge 8, 3) := by decide +kernel
theorem dX7_fresh_136 : decode cX7_fresh 136 = .ok (.iload 6, 2) := by decide +kernel
theorem dX7_fresh_138 : decode cX7_fresh 138 = .ok (.goto 4, 3) := by decide +kernel
theorem dX7_fresh_141 : decode cX7_fresh 141 = .ok (.iload_n 3, 1) := by decide +kernel
theorem dX7_fresh_142 : decode cX7_fresh 142 = .ok (.istore_n 3, 1) := by decide +kernel
theorem dX7_fresh_143 : decode cX7_fresh 143 = .ok (.iinc 5 1, 3) := by decide +kernel
theorem dX7_fresh_146 : decode cX7_fresh 146 = .ok (.goto (-104), 3) := by decide +kernel
theorem dX7_fresh_149 : decode cX7_fresh 149 = .ok (.iload_n 2, 1) := by decide +kernel
theorem dX7_fresh_150 : decode cX7_fresh 150 = .ok (.ifCond .ne 8, 3) := by decide +kernel
theorem dX7_fresh_153 : decode cX7_fresh 153 = .ok (.iload 4, 2) := by decide +kernel
theorem dX7_fresh_155 : decode cX7_fresh 155 = .ok (.goto 4, 3) := by decide +kernel
theorem dX7_fresh_158 : decode cX7_fresh 158 = .ok (.iload_n 3, 1) := by decide +kernel
theorem dX7_fresh_159 : decode cX7_fresh 159 = .ok (.ireturn, 1) := by decide +kernel
theorem dX7_weightOf_0 : decode cX7_weightOf 0 = .ok (.iconst 0, 1) := by decide +kernel
theorem dX7_weightOf_1 : decode cX7_weightOf 1 = .ok (.istore_n 2, 1) := by decide +kernel
theorem dX7_weightOf_2 : decode cX7_weightOf 2 = .ok (.iconst 0, 1) := by decide +kernel
theorem dX7_weightOf_3 : decode cX7_weightOf 3 = .ok (.istore_n 3, 1) := by decide +kernel
theorem dX7_weightOf_4 : decode cX7_weightOf 4 = .ok (.iload_n 3, 1) := by decide +kernel
theorem dX7_weightOf_5 : decode cX7_weightOf 5 = .ok (.bipush 10, 2) := by decide +kernel
theorem dX7_weightOf_7 : decode cX7_weightOf 7 = .ok (.if_icmp .ge 30, 3) := by decide +kernel
theorem dX7_weightOf_10 : decode cX7_weightOf 10 = .ok (.iload_n 2, 1) := by decide +kernel
theorem dX7_weightOf_11 : decode cX7_weightOf 11 = .ok (.iload_n 1, 1) := by decide +kernel
theorem dX7_weightOf_12 : decode cX7_weightOf 12 = .ok (.iload_n 3, 1) := by decide +kernel
theorem dX7_weightOf_13 : decode cX7_weightOf 13 = .ok (.invokestatic 152, 3) := by decide +kernel
theorem dX7_weightOf_16 : decode cX7_weightOf 16 = .ok (.ifCond .eq 12, 3) := by decide +kernel
theorem dX7_weightOf_19 : decode cX7_weightOf 19 = .ok (.aload_n 0, 1) := by decide +kernel
theorem dX7_weightOf_20 : decode cX7_weightOf 20 = .ok (.getfield 16, 3) := by decide +kernel
theorem dX7_weightOf_23 : decode cX7_weightOf 23 = .ok (.iload_n 3, 1) := by decide +kernel
theorem dX7_weightOf_24 : decode cX7_weightOf 24 = .ok (.iaload, 1) := by decide +kernel
theorem dX7_weightOf_25 : decode cX7_weightOf 25 = .ok (.goto 4, 3) := by decide +kernel
theorem dX7_weightOf_28 : decode cX7_weightOf 28 = .ok (.iconst 0, 1) := by decide +kernel
theorem dX7_weightOf_29 : decode cX7_weightOf 29 = .ok (.iadd, 1) := by decide +kernel
theorem dX7_weightOf_30 : decode cX7_weightOf 30 = .ok (.istore_n 2, 1) := by decide +kernel
theorem dX7_weightOf_31 : decode cX7_weightOf 31 = .ok (.iinc 3 1, 3) := by decide +kernel
theorem dX7_weightOf_34 : decode cX7_weightOf 34 = .ok (.goto (-30), 3) := by decide +kernel
theorem dX7_weightOf_37 : decode cX7_weightOf 37 = .ok (.iload_n 2, 1) := by decide +kernel
theorem dX7_weightOf_38 : decode cX7_weightOf 38 = .ok (.ireturn, 1) := by decide +kernel
theorem dX7_alike_0 : decode cX7_alike 0 = .ok (.aload_n 0, 1) := by decide +kernel
theorem dX7_alike_1 : decode cX7_alike 1 = .ok (.iload_n 1, 1) := by decide +kernel
theorem dX7_alike_2 : decode cX7_alike 2 = .ok (.invokevirtual 106, 3) := by decide +kernel
theorem dX7_alike_5 : decode cX7_alike 5 = .ok (.ifCond .eq 25, 3) := by decide +kernel
theorem dX7_alike_8 : decode cX7_alike 8 = .ok (.aload_n 0, 1) := by decide +kernel
theorem dX7_alike_9 : decode cX7_alike 9 = .ok (.iload_n 2, 1) := by decide +kernel
theorem dX7_alike_10 : decode cX7_alike 10 = .ok (.invokevirtual 106, 3) := by decide +kernel
theorem dX7_alike_13 : decode cX7_alike 13 = .ok (.ifCond .eq 17, 3) := by decide +kernel
theorem dX7_alike_16 : decode cX7_alike 16 = .ok (.iload_n 1, 1) := by decide +kernel
theorem dX7_alike_17 : decode cX7_alike 17 = .ok (.iload_n 2, 1) := by decide +kernel
theorem dX7_alike_18 : decode cX7_alike 18 = .ok (.if_icmp .eq 12, 3) := by decide +kernel
theorem dX7_alike_21 : decode cX7_alike 21 = .ok (.iload_n 3, 1) := by decide +kernel
theorem dX7_alike_22 : decode cX7_alike 22 = .ok (.iconst 0, 1) := by decide +kernel
theorem dX7_alike_23 : decode cX7_alike 23 = .ok (.iconst 1, 1) := by decide +kernel
theorem dX7_alike_24 : decode cX7_alike 24 = .ok (.invokestatic 98, 3) := by decide +kernel
theorem dX7_alike_27 : decode cX7_alike 27 = .ok (.ifCond .ne 9, 3) := by decide +kernel
theorem dX7_alike_30 : decode cX7_alike 30 = .ok (.bipush (-2), 2) := by decide +kernel
theorem dX7_alike_32 : decode cX7_alike 32 = .ok (.invokestatic 221, 3) := by decide +kernel
theorem dX7_alike_35 : decode cX7_alike 35 = .ok (.lreturn, 1) := by decide +kernel
theorem dX7_alike_36 : decode cX7_alike 36 = .ok (.aload_n 0, 1) := by decide +kernel
theorem dX7_alike_37 : decode cX7_alike 37 = .ok (.invokevirtual 149, 3) := by decide +kernel
theorem dX7_alike_40 : decode cX7_alike 40 = .ok (.aload_n 0, 1) := by decide +kernel
theorem dX7_alike_41 : decode cX7_alike 41 = .ok (.aload_n 0, 1) := by decide +kernel
theorem dX7_alike_42 : decode cX7_alike 42 = .ok (.getfield 53, 3) := by decide +kernel
theorem dX7_alike_45 : decode cX7_alike 45 = .ok (.iload_n 1, 1) := by decide +kernel
theorem dX7_alike_46 : decode cX7_alike 46 = .ok (.iaload, 1) := by decide +kernel
theorem dX7_alike_47 : decode cX7_alike 47 = .ok (.aload_n 0, 1) := by decide +kernel
theorem dX7_alike_48 : decode cX7_alike 48 = .ok (.getfield 53, 3) := by decide +kernel
theorem dX7_alike_51 : decode cX7_alike 51 = .ok (.iload_n 2, 1) := by decide +kernel
theorem dX7_alike_52 : decode cX7_alike 52 = .ok (.iaload, 1) := by decide +kernel
theorem dX7_alike_53 : decode cX7_alike 53 = .ok (.ior, 1) := by decide +kernel
theorem dX7_alike_54 : decode cX7_alike 54 = .ok (.invokevirtual 253, 3) := by decide +kernel
theorem dX7_alike_57 : decode cX7_alike 57 = .ok (.istore 4, 2) := by decide +kernel
theorem dX7_alike_59 : decode cX7_alike 59 = .ok (.iload 4, 2) := by decide +kernel
theorem dX7_alike_61 : decode cX7_alike 61 = .ok (.ifCond .ne 11, 3) := by decide +kernel
theorem dX7_alike_64 : decode cX7_alike 64 = .ok (.bipush (-3), 2) := by decide +kernel
theorem dX7_alike_66 : decode cX7_alike 66 = .ok (.invokestatic 221, 3) := by decide +kernel
theorem dX7_alike_69 : decode cX7_alike 69 = .ok (.goto 28, 3) := by decide +kernel
theorem dX7_alike_72 : decode cX7_alike 72 = .ok (.aload_n 0, 1) := by decide +kernel
theorem dX7_alike_73 : decode cX7_alike 73 = .ok (.aload_n 0, 1) := by decide +kernel
theorem dX7_alike_74 : decode cX7_alike 74 = .ok (.getfield 53, 3) := by decide +kernel
theorem dX7_alike_77 : decode cX7_alike 77 = .ok (.iload_n 1, 1) := by decide +kernel
theorem dX7_alike_78 : decode cX7_alike 78 = .ok (.iaload, 1) := by decide +kernel
theorem dX7_alike_79 : decode cX7_alike 79 = .ok (.aload_n 0, 1) := by decide +kernel
theorem dX7_alike_80 : decode cX7_alike 80 = .ok (.getfield 53, 3) := by decide +kernel
theorem dX7_alike_83 : decode cX7_alike 83 = .ok (.iload_n 2, 1) := by decide +kernel
theorem dX7_alike_84 : decode cX7_alike 84 = .ok (.iaload, 1) := by decide +kernel
theorem dX7_alike_85 : decode cX7_alike 85 = .ok (.iand, 1) := by decide +kernel
theorem dX7_alike_86 : decode cX7_alike 86 = .ok (.invokevirtual 253, 3) := by decide +kernel
theorem dX7_alike_89 : decode cX7_alike 89 = .ok (.i2l, 1) := by decide +kernel
theorem dX7_alike_90 : decode cX7_alike 90 = .ok (.iload 4, 2) := by decide +kernel
theorem dX7_alike_92 : decode cX7_alike 92 = .ok (.i2l, 1) := by decide +kernel
theorem dX7_alike_93 : decode cX7_alike 93 = .ok (.iload_n 3, 1) := by decide +kernel
theorem dX7_alike_94 : decode cX7_alike 94 = .ok (.invokestatic 217, 3) := by decide +kernel
theorem dX7_alike_97 : decode cX7_alike 97 = .ok (.lreturn, 1) := by decide +kernel
theorem dX7_nearestNow_0 : decode cX7_nearestNow 0 = .ok (.aload_n 0, 1) := by decide +kernel
theorem dX7_nearestNow_1 : decode cX7_nearestNow 1 = .ok (.invokevirtual 149, 3) := by decide +kernel
theorem dX7_nearestNow_4 : decode cX7_nearestNow 4 = .ok (.iconst (-1), 1) := by decide +kernel
theorem dX7_nearestNow_5 : decode cX7_nearestNow 5 = .ok (.istore_n 2, 1) := by decide +kernel
theorem dX7_nearestNow_6 : decode cX7_nearestNow 6 = .ok (.iconst 0, 1) := by decide +kernel
theorem dX7_nearestNow_7 : decode cX7_nearestNow 7 = .ok (.istore_n 3, 1) := by decide +kernel
theorem dX7_nearestNow_8 : decode cX7_nearestNow 8 = .ok (.iconst 1, 1) := by decide +kernel
theorem dX7_nearestNow_9 : decode cX7_nearestNow 9 = .ok (.istore 4, 2) := by decide +kernel
theorem dX7_nearestNow_11 : decode cX7_nearestNow 11 = .ok (.iconst 0, 1) := by decide +kernel
theorem dX7_nearestNow_12 : decode cX7_nearestNow 12 = .ok (.istore 5, 2) := by decide +kernel
theorem dX7_nearestNow_14 : decode cX7_nearestNow 14 = .ok (.iload 5, 2) := by decide +kernel
theorem dX7_nearestNow_16 : decode cX7_nearestNow 16 = .ok (.aload_n 0, 1) := by decide +kernel
theorem dX7_nearestNow_17 : decode cX7_nearestNow 17 = .ok (.getfield 95, 3) := by decide +kernel
theorem dX7_nearestNow_20 : decode cX7_nearestNow 20 = .ok (.if_icmp .ge 87, 3) := by decide +kernel
theorem dX7_nearestNow_23 : decode cX7_nearestNow 23 = .ok (.aload_n 0, 1) := by decide +kernel
theorem dX7_nearestNow_24 : decode cX7_nearestNow 24 = .ok (.aload_n 0, 1) := by decide +kernel
theorem dX7_nearestNow_25 : decode cX7_nearestNow 25 = .ok (.getfield 53, 3) := by decide +kernel
theorem dX7_nearestNow_28 : decode cX7_nearestNow 28 = .ok (.iload 5, 2) := by decide +kernel
theorem dX7_nearestNow_30 : decode cX7_nearestNow 30 = .ok (.iaload, 1) := by decide +kernel
theorem dX7_nearestNow_31 : decode cX7_nearestNow 31 = .ok (.aload_n 0, 1) := by decide +kernel
theorem dX7_nearestNow_32 : decode cX7_nearestNow 32 = .ok (.getfield 53, 3) := by decide +kernel
theorem dX7_nearestNow_35 : decode cX7_nearestNow 35 = .ok (.iload_n 1, 1) := by decide +kernel
theorem dX7_nearestNow_36 : decode cX7_nearestNow 36 = .ok (.iaload, 1) := by decide +kernel
theorem dX7_nearestNow_37 : decode cX7_nearestNow 37 = .ok (.ior, 1) := by decide +kernel
theorem dX7_nearestNow_38 : decode cX7_nearestNow 38 = .ok (.invokevirtual 253, 3) := by decide +kernel
theorem dX7_nearestNow_41 : decode cX7_nearestNow 41 = .ok (.istore 6, 2) := by decide +kernel
theorem dX7_nearestNow_43 : decode cX7_nearestNow 43 = .ok (.aload_n 0, 1) := by decide +kernel
theorem dX7_nearestNow_44 : decode cX7_nearestNow 44 = .ok (.aload_n 0, 1) := by decide +kernel
theorem dX7_nearestNow_45 : decode cX7_nearestNow 45 = .ok (.getfield 53, 3) := by decide +kernel
theorem dX7_nearestNow_48 : decode cX7_nearestNow 48 = .ok (.iload 5, 2) := by decide +kernel
theorem dX7_nearestNow_50 : decode cX7_nearestNow 50 = .ok (.iaload, 1) := by decide +kernel
theorem dX7_nearestNow_51 : decode cX7_nearestNow 51 = .ok (.aload_n 0, 1) := by decide +kernel
theorem dX7_nearestNow_52 : decode cX7_nearestNow 52 = .ok (.getfield 53, 3) := by decide +kernel
theorem dX7_nearestNow_55 : decode cX7_nearestNow 55 = .ok (.iload_n 1, 1) := by decide +kernel
theorem dX7_nearestNow_56 : decode cX7_nearestNow 56 = .ok (.iaload, 1) := by decide +kernel
theorem dX7_nearestNow_57 : decode cX7_nearestNow 57 = .ok (.iand, 1) := by decide +kernel
theorem dX7_nearestNow_58 : decode cX7_nearestNow 58 = .ok (.invokevirtual 253, 3) := by decide +kernel
theorem dX7_nearestNow_61 : decode cX7_nearestNow 61 = .ok (.istore 7, 2) := by decide +kernel
theorem dX7_nearestNow_63 : decode cX7_nearestNow 63 = .ok (.iload 5, 2) := by decide +kernel
theorem dX7_nearestNow_65 : decode cX7_nearestNow 65 = .ok (.iload_n 1, 1) := by decide +kernel
theorem dX7_nearestNow_66 : decode cX7_nearestNow 66 = .ok (.if_icmp .eq 35, 3) := by decide +kernel
theorem dX7_nearestNow_69 : decode cX7_nearestNow 69 = .ok (.iload 6, 2) := by decide +kernel
theorem dX7_nearestNow_71 : decode cX7_nearestNow 71 = .ok (.ifCond .le 30, 3) := by decide +kernel
theorem dX7_nearestNow_74 : decode cX7_nearestNow 74 = .ok (.iload_n 2, 1) := by decide +kernel
theorem dX7_nearestNow_75 : decode cX7_nearestNow 75 = .ok (.iconst (-1), 1) := by decide +kernel
theorem dX7_nearestNow_76 : decode cX7_nearestNow 76 = .ok (.if_icmp .eq 15, 3) := by decide +kernel
theorem dX7_nearestNow_79 : decode cX7_nearestNow 79 = .ok (.iload 7, 2) := by decide +kernel
theorem dX7_nearestNow_81 : decode cX7_nearestNow 81 = .ok (.iload 4, 2) := by decide +kernel
theorem dX7_nearestNow_83 : decode cX7_nearestNow 83 = .ok (.imul, 1) := by decide +kernel
theorem dX7_nearestNow_84 : decode cX7_nearestNow 84 = .ok (.iload_n 3, 1) := by decide +kernel
theorem dX7_nearestNow_85 : decode cX7_nearestNow 85 = .ok (.iload 6, 2) := by decide +kernel
theorem dX7_nearestNow_87 : decode cX7_nearestNow 87 = .ok (.imul, 1) := by decide +kernel
theorem dX7_nearestNow_88 : decode cX7_nearestNow 88 = .ok (.if_icmp .le 13, 3) := by decide +kernel
theorem dX7_nearestNow_91 : decode cX7_nearestNow 91 = .ok (.iload 5, 2) := by decide +kernel
theorem dX7_nearestNow_93 : decode cX7_nearestNow 93 = .ok (.istore_n 2, 1) := by decide +kernel
theorem dX7_nearestNow_94 : decode cX7_nearestNow 94 = .ok (.iload 7, 2) := by decide +kernel
theorem dX7_nearestNow_96 : decode cX7_nearestNow 96 = .ok (.istore_n 3, 1) := by decide +kernel
theorem dX7_nearestNow_97 : decode cX7_nearestNow 97 = .ok (.iload 6, 2) := by decide +kernel
theorem dX7_nearestNow_99 : decode cX7_nearestNow 99 = .ok (.istore 4, 2) := by decide +kernel
theorem dX7_nearestNow_101 : decode cX7_nearestNow 101 = .ok (.iinc 5 1, 3) := by decide +kernel
theorem dX7_nearestNow_104 : decode cX7_nearestNow 104 = .ok (.goto (-90), 3) := by decide +kernel
theorem dX7_nearestNow_107 : decode cX7_nearestNow 107 = .ok (.iload_n 2, 1) := by decide +kernel
theorem dX7_nearestNow_108 : decode cX7_nearestNow 108 = .ok (.ireturn, 1) := by decide +kernel
theorem dX7_nearest_0 : decode cX7_nearest 0 = .ok (.aload_n 0, 1) := by decide +kernel
theorem dX7_nearest_1 : decode cX7_nearest 1 = .ok (.iload_n 1, 1) := by decide +kernel
theorem dX7_nearest_2 : decode cX7_nearest 2 = .ok (.invokevirtual 106, 3) := by decide +kernel
theorem dX7_nearest_5 : decode cX7_nearest 5 = .ok (.ifCond .eq 11, 3) := by decide +kernel
theorem dX7_nearest_8 : decode cX7_nearest 8 = .ok (.aload_n 0, 1) := by decide +kernel
theorem dX7_nearest_9 : decode cX7_nearest 9 = .ok (.iload_n 1, 1) := by decide +kernel
theorem dX7_nearest_10 : decode cX7_nearest 10 = .ok (.invokevirtual 256, 3) := by decide +kernel
theorem dX7_nearest_13 : decode cX7_nearest 13 = .ok (.goto 5, 3) := by decide +kernel
theorem dX7_nearest_16 : decode cX7_nearest 16 = .ok (.bipush (-2), 2) := by decide +kernel
theorem dX7_nearest_18 : decode cX7_nearest 18 = .ok (.ireturn, 1) := by decide +kernel
theorem dX7_meets_0 : decode cX7_meets 0 = .ok (.aload_n 0, 1) := by decide +kernel
theorem dX7_meets_1 : decode cX7_meets 1 = .ok (.iload_n 1, 1) := by decide +kernel
theorem dX7_meets_2 : decode cX7_meets 2 = .ok (.putfield 259, 3) := by decide +kernel
theorem dX7_meets_5 : decode cX7_meets 5 = .ok (.bipush (-10), 2) := by decide +kernel
theorem dX7_meets_7 : decode cX7_meets 7 = .ok (.iload_n 1, 1) := by decide +kernel
theorem dX7_meets_8 : decode cX7_meets 8 = .ok (.isub, 1) := by decide +kernel
theorem dX7_meets_9 : decode cX7_meets 9 = .ok (.ireturn, 1) := by decide +kernel
theorem dX7_isSheet_0 : decode cX7_isSheet 0 = .ok (.iload_n 0, 1) := by decide +kernel
theorem dX7_isSheet_1 : decode cX7_isSheet 1 = .ok (.iconst 0, 1) := by decide +kernel
theorem dX7_isSheet_2 : decode cX7_isSheet 2 = .ok (.iconst 3, 1) := by decide +kernel
theorem dX7_isSheet_3 : decode cX7_isSheet 3 = .ok (.invokestatic 98, 3) := by decide +kernel
theorem dX7_isSheet_6 : decode cX7_isSheet 6 = .ok (.ireturn, 1) := by decide +kernel
theorem dX7_sheet_0 : decode cX7_sheet 0 = .ok (.iload_n 1, 1) := by decide +kernel
theorem dX7_sheet_1 : decode cX7_sheet 1 = .ok (.invokestatic 143, 3) := by decide +kernel
theorem dX7_sheet_4 : decode cX7_sheet 4 = .ok (.ifCond .eq 18, 3) := by decide +kernel
theorem dX7_sheet_7 : decode cX7_sheet 7 = .ok (.iload_n 2, 1) := by decide +kernel
theorem dX7_sheet_8 : decode cX7_sheet 8 = .ok (.iconst 0, 1) := by decide +kernel
theorem dX7_sheet_9 : decode cX7_sheet 9 = .ok (.iconst 2, 1) := by decide +kernel
theorem dX7_sheet_10 : decode cX7_sheet 10 = .ok (.invokestatic 98, 3) := by decide +kernel
theorem dX7_sheet_13 : decode cX7_sheet 13 = .ok (.ifCond .eq 9, 3) := by decide +kernel
theorem dX7_sheet_16 : decode cX7_sheet 16 = .ok (.iload_n 3, 1) := by decide +kernel
theorem dX7_sheet_17 : decode cX7_sheet 17 = .ok (.bipush 40, 2) := by decide +kernel
theorem dX7_sheet_19 : decode cX7_sheet 19 = .ok (.if_icmp .le 6, 3) := by decide +kernel
theorem dX7_sheet_22 : decode cX7_sheet 22 = .ok (.bipush (-2), 2) := by decide +kernel
theorem dX7_sheet_24 : decode cX7_sheet 24 = .ok (.ireturn, 1) := by decide +kernel
theorem dX7_sheet_25 : decode cX7_sheet 25 = .ok (.iload_n 3, 1) := by decide +kernel
theorem dX7_sheet_26 : decode cX7_sheet 26 = .ok (.ifCond .ge 9, 3) := by decide +kernel
theorem dX7_sheet_29 : decode cX7_sheet 29 = .ok (.aload_n 0, 1) := by decide +kernel
theorem dX7_sheet_30 : decode cX7_sheet 30 = .ok (.iconst 5, 1) := by decide +kernel
theorem dX7_sheet_31 : decode cX7_sheet 31 = .ok (.invokevirtual 146, 3) := by decide +kernel
theorem dX7_sheet_34 : decode cX7_sheet 34 = .ok (.ireturn, 1) := by decide +kernel
theorem dX7_sheet_35 : decode cX7_sheet 35 = .ok (.aload_n 0, 1) := by decide +kernel
theorem dX7_sheet_36 : decode cX7_sheet 36 = .ok (.getfield 77, 3) := by decide +kernel
theorem dX7_sheet_39 : decode cX7_sheet 39 = .ok (.iload_n 1, 1) := by decide +kernel
theorem dX7_sheet_40 : decode cX7_sheet 40 = .ok (.iconst 1, 1) := by decide +kernel
theorem dX7_sheet_41 : decode cX7_sheet 41 = .ok (.bastore, 1) := by decide +kernel
theorem dX7_sheet_42 : decode cX7_sheet 42 = .ok (.aload_n 0, 1) := by decide +kernel
theorem dX7_sheet_43 : decode cX7_sheet 43 = .ok (.getfield 81, 3) := by decide +kernel
theorem dX7_sheet_46 : decode cX7_sheet 46 = .ok (.iload_n 1, 1) := by decide +kernel
theorem dX7_sheet_47 : decode cX7_sheet 47 = .ok (.iload_n 2, 1) := by decide +kernel
theorem dX7_sheet_48 : decode cX7_sheet 48 = .ok (.iastore, 1) := by decide +kernel
theorem dX7_sheet_49 : decode cX7_sheet 49 = .ok (.aload_n 0, 1) := by decide +kernel
theorem dX7_sheet_50 : decode cX7_sheet 50 = .ok (.getfield 84, 3) := by decide +kernel
theorem dX7_sheet_53 : decode cX7_sheet 53 = .ok (.iload_n 1, 1) := by decide +kernel
theorem dX7_sheet_54 : decode cX7_sheet 54 = .ok (.iload_n 3, 1) := by decide +kernel
theorem dX7_sheet_55 : decode cX7_sheet 55 = .ok (.iastore, 1) := by decide +kernel
theorem dX7_sheet_56 : decode cX7_sheet 56 = .ok (.iconst 0, 1) := by decide +kernel
theorem dX7_sheet_57 : decode cX7_sheet 57 = .ok (.istore 4, 2) := by decide +kernel
theorem dX7_sheet_59 : decode cX7_sheet 59 = .ok (.iload 4, 2) := by decide +kernel
theorem dX7_sheet_61 : decode cX7_sheet 61 = .ok (.bipush 40, 2) := by decide +kernel
theorem dX7_sheet_63 : decode cX7_sheet 63 = .ok (.if_icmp .ge 22, 3) := by decide +kernel
theorem dX7_sheet_66 : decode cX7_sheet 66 = .ok (.aload_n 0, 1) := by decide +kernel
theorem dX7_sheet_67 : decode cX7_sheet 67 = .ok (.getfield 87, 3) := by decide +kernel
theorem dX7_sheet_70 : decode cX7_sheet 70 = .ok (.bipush 40, 2) := by decide +kernel
theorem dX7_sheet_72 : decode cX7_sheet 72 = .ok (.iload_n 1, 1) := by decide +kernel
theorem dX7_sheet_73 : decode cX7_sheet 73 = .ok (.imul, 1) := by decide +kernel
theorem dX7_sheet_74 : decode cX7_sheet 74 = .ok (.iload 4, 2) := by decide +kernel
theorem dX7_sheet_76 : decode cX7_sheet 76 = .ok (.iadd, 1) := by decide +kernel
theorem dX7_sheet_77 : decode cX7_sheet 77 = .ok (.iconst 0, 1) := by decide +kernel
theorem dX7_sheet_78 : decode cX7_sheet 78 = .ok (.iastore, 1) := by decide +kernel
theorem dX7_sheet_79 : decode cX7_sheet 79 = .ok (.iinc 4 1, 3) := by decide +kernel
theorem dX7_sheet_82 : decode cX7_sheet 82 = .ok (.goto (-23), 3) := by decide +kernel
theorem dX7_sheet_85 : decode cX7_sheet 85 = .ok (.iload_n 3, 1) := by decide +kernel
theorem dX7_sheet_86 : decode cX7_sheet 86 = .ok (.ireturn, 1) := by decide +kernel
theorem dX7_lose_0 : decode cX7_lose 0 = .ok (.iload_n 1, 1) := by decide +kernel
theorem dX7_lose_1 : decode cX7_lose 1 = .ok (.invokestatic 143, 3) := by decide +kernel
theorem dX7_lose_4 : decode cX7_lose 4 = .ok (.ifCond .ne 6, 3) := by decide +kernel
theorem dX7_lose_7 : decode cX7_lose 7 = .ok (.bipush (-2), 2) := by decide +kernel
theorem dX7_lose_9 : decode cX7_lose 9 = .ok (.ireturn, 1) := by decide +kernel
theorem dX7_lose_10 : decode cX7_lose 10 = .ok (.aload_n 0, 1) := by decide +kernel
theorem dX7_lose_11 : decode cX7_lose 11 = .ok (.getfield 77, 3) := by decide +kernel
theorem dX7_lose_14 : decode cX7_lose 14 = .ok (.iload_n 1, 1) := by decide +kernel
theorem dX7_lose_15 : decode cX7_lose 15 = .ok (.baload, 1) := by decide +kernel
theorem dX7_lose_16 : decode cX7_lose 16 = .ok (.ifCond .ne 9, 3) := by decide +kernel
theorem dX7_lose_19 : decode cX7_lose 19 = .ok (.aload_n 0, 1) := by decide +kernel
theorem dX7_lose_20 : decode cX7_lose 20 = .ok (.iconst 1, 1) := by decide +kernel
theorem dX7_lose_21 : decode cX7_lose 21 = .ok (.invokevirtual 146, 3) := by decide +kernel
theorem dX7_lose_24 : decode cX7_lose 24 = .ok (.ireturn, 1) := by decide +kernel
theorem dX7_lose_25 : decode cX7_lose 25 = .ok (.aload_n 0, 1) := by decide +kernel
theorem dX7_lose_26 : decode cX7_lose 26 = .ok (.getfield 77, 3) := by decide +kernel
theorem dX7_lose_29 : decode cX7_lose 29 = .ok (.iload_n 1, 1) := by decide +kernel
theorem dX7_lose_30 : decode cX7_lose 30 = .ok (.iconst 0, 1) := by decide +kernel
theorem dX7_lose_31 : decode cX7_lose 31 = .ok (.bastore, 1) := by decide +kernel
theorem dX7_lose_32 : decode cX7_lose 32 = .ok (.aload_n 0, 1) := by decide +kernel
theorem dX7_lose_33 : decode cX7_lose 33 = .ok (.getfield 84, 3) := by decide +kernel
theorem dX7_lose_36 : decode cX7_lose 36 = .ok (.iload_n 1, 1) := by decide +kernel
theorem dX7_lose_37 : decode cX7_lose 37 = .ok (.iaload, 1) := by decide +kernel
theorem dX7_lose_38 : decode cX7_lose 38 = .ok (.ireturn, 1) := by decide +kernel
theorem dX7_lacks_0 : decode cX7_lacks 0 = .ok (.aload_n 0, 1) := by decide +kernel
theorem dX7_lacks_1 : decode cX7_lacks 1 = .ok (.getfield 77, 3) := by decide +kernel
theorem dX7_lacks_4 : decode cX7_lacks 4 = .ok (.iload_n 1, 1) := by decide +kernel
theorem dX7_lacks_5 : decode cX7_lacks 5 = .ok (.baload, 1) := by decide +kernel
theorem dX7_lacks_6 : decode cX7_lacks 6 = .ok (.ifCond .ne 7, 3) := by decide +kernel
theorem dX7_lacks_9 : decode cX7_lacks 9 = .ok (.iconst 1, 1) := by decide +kernel
theorem dX7_lacks_10 : decode cX7_lacks 10 = .ok (.goto 38, 3) := by decide +kernel
theorem dX7_lacks_13 : decode cX7_lacks 13 = .ok (.aload_n 0, 1) := by decide +kernel
theorem dX7_lacks_14 : decode cX7_lacks 14 = .ok (.getfield 81, 3) := by decide +kernel
theorem dX7_lacks_17 : decode cX7_lacks 17 = .ok (.iload_n 1, 1) := by decide +kernel
theorem dX7_lacks_18 : decode cX7_lacks 18 = .ok (.iaload, 1) := by decide +kernel
theorem dX7_lacks_19 : decode cX7_lacks 19 = .ok (.iload_n 2, 1) := by decide +kernel
theorem dX7_lacks_20 : decode cX7_lacks 20 = .ok (.if_icmp .eq 7, 3) := by decide +kernel
theorem dX7_lacks_23 : decode cX7_lacks 23 = .ok (.iconst 3, 1) := by decide +kernel
theorem dX7_lacks_24 : decode cX7_lacks 24 = .ok (.goto 24, 3) := by decide +kernel
theorem dX7_lacks_27 : decode cX7_lacks 27 = .ok (.iload_n 3, 1) := by decide +kernel
theorem dX7_lacks_28 : decode cX7_lacks 28 = .ok (.iconst 0, 1) := by decide +kernel
theorem dX7_lacks_29 : decode cX7_lacks 29 = .ok (.aload_n 0, 1) := by decide +kernel
theorem dX7_lacks_30 : decode cX7_lacks 30 = .ok (.getfield 84, 3) := by decide +kernel
theorem dX7_lacks_33 : decode cX7_lacks 33 = .ok (.iload_n 1, 1) := by decide +kernel
theorem dX7_lacks_34 : decode cX7_lacks 34 = .ok (.iaload, 1) := by decide +kernel
theorem dX7_lacks_35 : decode cX7_lacks 35 = .ok (.iconst 1, 1) := by decide +kernel
theorem dX7_lacks_36 : decode cX7_lacks 36 = .ok (.isub, 1) := by decide +kernel
theorem dX7_lacks_37 : decode cX7_lacks 37 = .ok (.invokestatic 98, 3) := by decide +kernel
theorem dX7_lacks_40 : decode cX7_lacks 40 = .ok (.ifCond .eq 7, 3) := by decide +kernel
theorem dX7_lacks_43 : decode cX7_lacks 43 = .ok (.iconst 0, 1) := by decide +kernel
theorem dX7_lacks_44 : decode cX7_lacks 44 = .ok (.goto 4, 3) := by decide +kernel
theorem dX7_lacks_47 : decode cX7_lacks 47 = .ok (.iconst 2, 1) := by decide +kernel
theorem dX7_lacks_48 : decode cX7_lacks 48 = .ok (.ireturn, 1) := by decide +kernel
theorem dX7_keep_0 : decode cX7_keep 0 = .ok (.aload_n 0, 1) := by decide +kernel
theorem dX7_keep_1 : decode cX7_keep 1 = .ok (.getfield 87, 3) := by decide +kernel
theorem dX7_keep_4 : decode cX7_keep 4 = .ok (.bipush 40, 2) := by decide +kernel
theorem dX7_keep_6 : decode cX7_keep 6 = .ok (.iload_n 1, 1) := by decide +kernel
theorem dX7_keep_7 : decode cX7_keep 7 = .ok (.imul, 1) := by decide +kernel
theorem dX7_keep_8 : decode cX7_keep 8 = .ok (.iload_n 2, 1) := by decide +kernel
theorem dX7_keep_9 : decode cX7_keep 9 = .ok (.iadd, 1) := by decide +kernel
theorem dX7_keep_10 : decode cX7_keep 10 = .ok (.aload_n 0, 1) := by decide +kernel
theorem dX7_keep_11 : decode cX7_keep 11 = .ok (.getfield 81, 3) := by decide +kernel
theorem dX7_keep_14 : decode cX7_keep 14 = .ok (.iload_n 1, 1) := by decide +kernel
theorem dX7_keep_15 : decode cX7_keep 15 = .ok (.iaload, 1) := by decide +kernel
theorem dX7_keep_16 : decode cX7_keep 16 = .ok (.ifCond .ne 8, 3) := by decide +kernel
theorem dX7_keep_19 : decode cX7_keep 19 = .ok (.iload_n 3, 1) := by decide +kernel
theorem dX7_keep_20 : decode cX7_keep 20 = .ok (.i2b, 1) := by decide +kernel
theorem dX7_keep_21 : decode cX7_keep 21 = .ok (.goto 19, 3) := by decide +kernel
theorem dX7_keep_24 : decode cX7_keep 24 = .ok (.aload_n 0, 1) := by decide +kernel
theorem dX7_keep_25 : decode cX7_keep 25 = .ok (.getfield 81, 3) := by decide +kernel
theorem dX7_keep_28 : decode cX7_keep 28 = .ok (.iload_n 1, 1) := by decide +kernel
theorem dX7_keep_29 : decode cX7_keep 29 = .ok (.iaload, 1) := by decide +kernel
theorem dX7_keep_30 : decode cX7_keep 30 = .ok (.iconst 1, 1) := by decide +kernel
theorem dX7_keep_31 : decode cX7_keep 31 = .ok (.if_icmp .ne 8, 3) := by decide +kernel
theorem dX7_keep_34 : decode cX7_keep 34 = .ok (.iload_n 3, 1) := by decide +kernel
theorem dX7_keep_35 : decode cX7_keep 35 = .ok (.i2s, 1) := by decide +kernel
theorem dX7_keep_36 : decode cX7_keep 36 = .ok (.goto 4, 3) := by decide +kernel
theorem dX7_keep_39 : decode cX7_keep 39 = .ok (.iload_n 3, 1) := by decide +kernel
theorem dX7_keep_40 : decode cX7_keep 40 = .ok (.iastore, 1) := by decide +kernel
theorem dX7_keep_41 : decode cX7_keep 41 = .ok (.return_, 1) := by decide +kernel
theorem dX7_put_0 : decode cX7_put 0 = .ok (.iload_n 1, 1) := by decide +kernel
theorem dX7_put_1 : decode cX7_put 1 = .ok (.invokestatic 143, 3) := by decide +kernel
theorem dX7_put_4 : decode cX7_put 4 = .ok (.ifCond .eq 12, 3) := by decide +kernel
theorem dX7_put_7 : decode cX7_put 7 = .ok (.iload_n 2, 1) := by decide +kernel
theorem dX7_put_8 : decode cX7_put 8 = .ok (.iconst 0, 1) := by decide +kernel
theorem dX7_put_9 : decode cX7_put 9 = .ok (.iconst 2, 1) := by decide +kernel
theorem dX7_put_10 : decode cX7_put 10 = .ok (.invokestatic 98, 3) := by decide +kernel
theorem dX7_put_13 : decode cX7_put 13 = .ok (.ifCond .ne 6, 3) := by decide +kernel
theorem dX7_put_16 : decode cX7_put 16 = .ok (.bipush (-2), 2) := by decide +kernel
theorem dX7_put_18 : decode cX7_put 18 = .ok (.ireturn, 1) := by decide +kernel
theorem dX7_put_19 : decode cX7_put 19 = .ok (.aload_n 0, 1) := by decide +kernel
theorem dX7_put_20 : decode cX7_put 20 = .ok (.iload_n 1, 1) := by decide +kernel
theorem dX7_put_21 : decode cX7_put 21 = .ok (.iload_n 2, 1) := by decide +kernel
theorem dX7_put_22 : decode cX7_put 22 = .ok (.iload_n 3, 1) := by decide +kernel
theorem dX7_put_23 : decode cX7_put 23 = .ok (.invokevirtual 262, 3) := by decide +kernel
theorem dX7_put_26 : decode cX7_put 26 = .ok (.istore 5, 2) := by decide +kernel
theorem dX7_put_28 : decode cX7_put 28 = .ok (.iload 5, 2) := by decide +kernel
theorem dX7_put_30 : decode cX7_put 30 = .ok (.ifCond .le 10, 3) := by decide +kernel
theorem dX7_put_33 : decode cX7_put 33 = .ok (.aload_n 0, 1) := by decide +kernel
theorem dX7_put_34 : decode cX7_put 34 = .ok (.iload 5, 2) := by decide +kernel
theorem dX7_put_36 : decode cX7_put 36 = .ok (.invokevirtual 146, 3) := by decide +kernel
theorem dX7_put_39 : decode cX7_put 39 = .ok (.ireturn, 1) := by decide +kernel
theorem dX7_put_40 : decode cX7_put 40 = .ok (.aload_n 0, 1) := by decide +kernel
theorem dX7_put_41 : decode cX7_put 41 = .ok (.iload_n 1, 1) := by decide +kernel
theorem dX7_put_42 : decode cX7_put 42 = .ok (.iload_n 3, 1) := by decide +kernel
theorem dX7_put_43 : decode cX7_put 43 = .ok (.iload 4, 2) := by decide +kernel
theorem dX7_put_45 : decode cX7_put 45 = .ok (.invokevirtual 266, 3) := by decide +kernel
theorem dX7_put_48 : decode cX7_put 48 = .ok (.iconst 1, 1) := by decide +kernel
theorem dX7_put_49 : decode cX7_put 49 = .ok (.ireturn, 1) := by decide +kernel
theorem dX7_get_0 : decode cX7_get 0 = .ok (.iload_n 1, 1) := by decide +kernel
theorem dX7_get_1 : decode cX7_get 1 = .ok (.invokestatic 143, 3) := by decide +kernel
theorem dX7_get_4 : decode cX7_get 4 = .ok (.ifCond .eq 12, 3) := by decide +kernel
theorem dX7_get_7 : decode cX7_get 7 = .ok (.iload_n 2, 1) := by decide +kernel
theorem dX7_get_8 : decode cX7_get 8 = .ok (.iconst 0, 1) := by decide +kernel
theorem dX7_get_9 : decode cX7_get 9 = .ok (.iconst 2, 1) := by decide +kernel
theorem dX7_get_10 : decode cX7_get 10 = .ok (.invokestatic 98, 3) := by decide +kernel
theorem dX7_get_13 : decode cX7_get 13 = .ok (.ifCond .ne 7, 3) := by decide +kernel
theorem dX7_get_16 : decode cX7_get 16 = .ok (.ldc_w 270, 3) := by decide +kernel
theorem dX7_get_19 : decode cX7_get 19 = .ok (.ireturn, 1) := by decide +kernel
theorem dX7_get_20 : decode cX7_get 20 = .ok (.aload_n 0, 1) := by decide +kernel
theorem dX7_get_21 : decode cX7_get 21 = .ok (.iload_n 1, 1) := by decide +kernel
theorem dX7_get_22 : decode cX7_get 22 = .ok (.iload_n 2, 1) := by decide +kernel
theorem dX7_get_23 : decode cX7_get 23 = .ok (.iload_n 3, 1) := by decide +kernel
theorem dX7_get_24 : decode cX7_get 24 = .ok (.invokevirtual 262, 3) := by decide +kernel
theorem dX7_get_27 : decode cX7_get 27 = .ok (.istore 4, 2) := by decide +kernel
theorem dX7_get_29 : decode cX7_get 29 = .ok (.iload 4, 2) := by decide +kernel
theorem dX7_get_31 : decode cX7_get 31 = .ok (.ifCond .le 13, 3) := by decide +kernel
theorem dX7_get_34 : decode cX7_get 34 = .ok (.aload_n 0, 1) := by decide +kernel
theorem dX7_get_35 : decode cX7_get 35 = .ok (.iload 4, 2) := by decide +kernel
theorem dX7_get_37 : decode cX7_get 37 = .ok (.putfield 259, 3) := by decide +kernel
theorem dX7_get_40 : decode cX7_get 40 = .ok (.ldc_w 270, 3) := by decide +kernel
theorem dX7_get_43 : decode cX7_get 43 = .ok (.ireturn, 1) := by decide +kernel
theorem dX7_get_44 : decode cX7_get 44 = .ok (.aload_n 0, 1) := by decide +kernel
theorem dX7_get_45 : decode cX7_get 45 = .ok (.getfield 87, 3) := by decide +kernel
theorem dX7_get_48 : decode cX7_get 48 = .ok (.bipush 40, 2) := by decide +kernel
theorem dX7_get_50 : decode cX7_get 50 = .ok (.iload_n 1, 1) := by decide +kernel
theorem dX7_get_51 : decode cX7_get 51 = .ok (.imul, 1) := by decide +kernel
theorem dX7_get_52 : decode cX7_get 52 = .ok (.iload_n 3, 1) := by decide +kernel
theorem dX7_get_53 : decode cX7_get 53 = .ok (.iadd, 1) := by decide +kernel
theorem dX7_get_54 : decode cX7_get 54 = .ok (.iaload, 1) := by decide +kernel
theorem dX7_get_55 : decode cX7_get 55 = .ok (.ireturn, 1) := by decide +kernel
theorem dX7_copy_0 : decode cX7_copy 0 = .ok (.iload_n 1, 1) := by decide +kernel
theorem dX7_copy_1 : decode cX7_copy 1 = .ok (.invokestatic 143, 3) := by decide +kernel
theorem dX7_copy_4 : decode cX7_copy 4 = .ok (.ifCond .eq 10, 3) := by decide +kernel
theorem dX7_copy_7 : decode cX7_copy 7 = .ok (.iload_n 3, 1) := by decide +kernel
theorem dX7_copy_8 : decode cX7_copy 8 = .ok (.invokestatic 143, 3) := by decide +kernel
theorem dX7_copy_11 : decode cX7_copy 11 = .ok (.ifCond .ne 6, 3) := by decide +kernel
theorem dX7_copy_14 : decode cX7_copy 14 = .ok (.bipush (-2), 2) := by decide +kernel
theorem dX7_copy_16 : decode cX7_copy 16 = .ok (.ireturn, 1) := by decide +kernel
theorem dX7_copy_17 : decode cX7_copy 17 = .ok (.aload_n 0, 1) := by decide +kernel
theorem dX7_copy_18 : decode cX7_copy 18 = .ok (.getfield 77, 3) := by decide +kernel
theorem dX7_copy_21 : decode cX7_copy 21 = .ok (.iload_n 1, 1) := by decide +kernel
theorem dX7_copy_22 : decode cX7_copy 22 = .ok (.baload, 1) := by decide +kernel
theorem dX7_copy_23 : decode cX7_copy 23 = .ok (.ifCond .eq 12, 3) := by decide +kernel
theorem dX7_copy_26 : decode cX7_copy 26 = .ok (.aload_n 0, 1) := by decide +kernel
theorem dX7_copy_27 : decode cX7_copy 27 = .ok (.getfield 77, 3) := by decide +kernel
theorem dX7_copy_30 : decode cX7_copy 30 = .ok (.iload_n 3, 1) := by decide +kernel
theorem dX7_copy_31 : decode cX7_copy 31 = .ok (.baload, 1) := by decide +kernel
theorem dX7_copy_32 : decode cX7_copy 32 = .ok (.ifCond .ne 9, 3) := by decide +kernel
theorem dX7_copy_35 : decode cX7_copy 35 = .ok (.aload_n 0, 1) := by decide +kernel
theorem dX7_copy_36 : decode cX7_copy 36 = .ok (.iconst 1, 1) := by decide +kernel
theorem dX7_copy_37 : decode cX7_copy 37 = .ok (.invokevirtual 146, 3) := by decide +kernel
theorem dX7_copy_40 : decode cX7_copy 40 = .ok (.ireturn, 1) := by decide +kernel
theorem dX7_copy_41 : decode cX7_copy 41 = .ok (.aload_n 0, 1) := by decide +kernel
theorem dX7_copy_42 : decode cX7_copy 42 = .ok (.getfield 81, 3) := by decide +kernel
theorem dX7_copy_45 : decode cX7_copy 45 = .ok (.iload_n 1, 1) := by decide +kernel
theorem dX7_copy_46 : decode cX7_copy 46 = .ok (.iaload, 1) := by decide +kernel
theorem dX7_copy_47 : decode cX7_copy 47 = .ok (.aload_n 0, 1) := by decide +kernel
theorem dX7_copy_48 : decode cX7_copy 48 = .ok (.getfield 81, 3) := by decide +kernel
theorem dX7_copy_51 : decode cX7_copy 51 = .ok (.iload_n 3, 1) := by decide +kernel
theorem dX7_copy_52 : decode cX7_copy 52 = .ok (.iaload, 1) := by decide +kernel
theorem dX7_copy_53 : decode cX7_copy 53 = .ok (.if_icmp .eq 9, 3) := by decide +kernel
theorem dX7_copy_56 : decode cX7_copy 56 = .ok (.aload_n 0, 1) := by decide +kernel
theorem dX7_copy_57 : decode cX7_copy 57 = .ok (.iconst 4, 1) := by decide +kernel
theorem dX7_copy_58 : decode cX7_copy 58 = .ok (.invokevirtual 146, 3) := by decide +kernel
theorem dX7_copy_61 : decode cX7_copy 61 = .ok (.ireturn, 1) := by decide +kernel
theorem dX7_copy_62 : decode cX7_copy 62 = .ok (.iload_n 2, 1) := by decide +kernel
theorem dX7_copy_63 : decode cX7_copy 63 = .ok (.ifCond .lt 48, 3) := by decide +kernel
theorem dX7_copy_66 : decode cX7_copy 66 = .ok (.iload 4, 2) := by decide +kernel
theorem dX7_copy_68 : decode cX7_copy 68 = .ok (.ifCond .lt 43, 3) := by decide +kernel
theorem dX7_copy_71 : decode cX7_copy 71 = .ok (.iload 5, 2) := by decide +kernel
theorem dX7_copy_73 : decode cX7_copy 73 = .ok (.ifCond .lt 38, 3) := by decide +kernel
theorem dX7_copy_76 : decode cX7_copy 76 = .ok (.iload_n 2, 1) := by decide +kernel
theorem dX7_copy_77 : decode cX7_copy 77 = .ok (.i2l, 1) := by decide +kernel
theorem dX7_copy_78 : decode cX7_copy 78 = .ok (.iload 5, 2) := by decide +kernel
theorem dX7_copy_80 : decode cX7_copy 80 = .ok (.i2l, 1) := by decide +kernel
theorem dX7_copy_81 : decode cX7_copy 81 = .ok (.ladd, 1) := by decide +kernel
theorem dX7_copy_82 : decode cX7_copy 82 = .ok (.aload_n 0, 1) := by decide +kernel
theorem dX7_copy_83 : decode cX7_copy 83 = .ok (.getfield 84, 3) := by decide +kernel
theorem dX7_copy_86 : decode cX7_copy 86 = .ok (.iload_n 1, 1) := by decide +kernel
theorem dX7_copy_87 : decode cX7_copy 87 = .ok (.iaload, 1) := by decide +kernel
theorem dX7_copy_88 : decode cX7_copy 88 = .ok (.i2l, 1) := by decide +kernel
theorem dX7_copy_89 : decode cX7_copy 89 = .ok (.lcmp, 1) := by decide +kernel
theorem dX7_copy_90 : decode cX7_copy 90 = .ok (.ifCond .gt 21, 3) := by decide +kernel
theorem dX7_copy_93 : decode cX7_copy 93 = .ok (.iload 4, 2) := by decide +kernel
theorem dX7_copy_95 : decode cX7_copy 95 = .ok (.i2l, 1) := by decide +kernel
theorem dX7_copy_96 : decode cX7_copy 96 = .ok (.iload 5, 2) := by decide +kernel
theorem dX7_copy_98 : decode cX7_copy 98 = .ok (.i2l, 1) := by decide +kernel
theorem dX7_copy_99 : decode cX7_copy 99 = .ok (.ladd, 1) := by decide +kernel
theorem dX7_copy_100 : decode cX7_copy 100 = .ok (.aload_n 0, 1) := by decide +kernel
theorem dX7_copy_101 : decode cX7_copy 101 = .ok (.getfield 84, 3) := by decide +kernel
theorem dX7_copy_104 : decode cX7_copy 104 = .ok (.iload_n 3, 1) := by decide +kernel
theorem dX7_copy_105 : decode cX7_copy 105 = .ok (.iaload, 1) := by decide +kernel
theorem dX7_copy_106 : decode cX7_copy 106 = .ok (.i2l, 1) := by decide +kernel
theorem dX7_copy_107 : decode cX7_copy 107 = .ok (.lcmp, 1) := by decide +kernel
theorem dX7_copy_108 : decode cX7_copy 108 = .ok (.ifCond .le 9, 3) := by decide +kernel
theorem dX7_copy_111 : decode cX7_copy 111 = .ok (.aload_n 0, 1) := by decide +kernel
theorem dX7_copy_112 : decode cX7_copy 112 = .ok (.iconst 2, 1) := by decide +kernel
theorem dX7_copy_113 : decode cX7_copy 113 = .ok (.invokevirtual 146, 3) := by decide +kernel
theorem dX7_copy_116 : decode cX7_copy 116 = .ok (.ireturn, 1) := by decide +kernel
theorem dX7_copy_117 : decode cX7_copy 117 = .ok (.iconst 0, 1) := by decide +kernel
theorem dX7_copy_118 : decode cX7_copy 118 = .ok (.istore 6, 2) := by decide +kernel
theorem dX7_copy_120 : decode cX7_copy 120 = .ok (.iload 6, 2) := by decide +kernel
theorem dX7_copy_122 : decode cX7_copy 122 = .ok (.iload 5, 2) := by decide +kernel
theorem dX7_copy_124 : decode cX7_copy 124 = .ok (.if_icmp .ge 30, 3) := by decide +kernel
theorem dX7_copy_127 : decode cX7_copy 127 = .ok (.aload_n 0, 1) := by decide +kernel
theorem dX7_copy_128 : decode cX7_copy 128 = .ok (.getfield 90, 3) := by decide +kernel
theorem dX7_copy_131 : decode cX7_copy 131 = .ok (.iload 6, 2) := by decide +kernel
theorem dX7_copy_133 : decode cX7_copy 133 = .ok (.aload_n 0, 1) := by decide +kernel
theorem dX7_copy_134 : decode cX7_copy 134 = .ok (.getfield 87, 3) := by decide +kernel
theorem dX7_copy_137 : decode cX7_copy 137 = .ok (.bipush 40, 2) := by decide +kernel
theorem dX7_copy_139 : decode cX7_copy 139 = .ok (.iload_n 1, 1) := by decide +kernel
theorem dX7_copy_140 : decode cX7_copy 140 = .ok (.imul, 1) := by decide +kernel
theorem dX7_copy_141 : decode cX7_copy 141 = .ok (.iload_n 2, 1) := by decide +kernel
theorem dX7_copy_142 : decode cX7_copy 142 = .ok (.iadd, 1) := by decide +kernel
theorem dX7_copy_143 : decode cX7_copy 143 = .ok (.iload 6, 2) := by decide +kernel
theorem dX7_copy_145 : decode cX7_copy 145 = .ok (.iadd, 1) := by decide +kernel
theorem dX7_copy_146 : decode cX7_copy 146 = .ok (.iaload, 1) := by decide +kernel
theorem dX7_copy_147 : decode cX7_copy 147 = .ok (.iastore, 1) := by decide +kernel
theorem dX7_copy_148 : decode cX7_copy 148 = .ok (.iinc 6 1, 3) := by decide +kernel
theorem dX7_copy_151 : decode cX7_copy 151 = .ok (.goto (-31), 3) := by decide +kernel
theorem dX7_copy_154 : decode cX7_copy 154 = .ok (.iconst 0, 1) := by decide +kernel
theorem dX7_copy_155 : decode cX7_copy 155 = .ok (.istore 6, 2) := by decide +kernel
theorem dX7_copy_157 : decode cX7_copy 157 = .ok (.iload 6, 2) := by decide +kernel
theorem dX7_copy_159 : decode cX7_copy 159 = .ok (.iload 5, 2) := by decide +kernel
theorem dX7_copy_161 : decode cX7_copy 161 = .ok (.if_icmp .ge 31, 3) := by decide +kernel
theorem dX7_copy_164 : decode cX7_copy 164 = .ok (.aload_n 0, 1) := by decide +kernel
theorem dX7_copy_165 : decode cX7_copy 165 = .ok (.getfield 87, 3) := by decide +kernel
theorem dX7_copy_168 : decode cX7_copy 168 = .ok (.bipush 40, 2) := by decide +kernel
theorem dX7_copy_170 : decode cX7_copy 170 = .ok (.iload_n 3, 1) := by decide +kernel
theorem dX7_copy_171 : decode cX7_copy 171 = .ok (.imul, 1) := by decide +kernel
theorem dX7_copy_172 : decode cX7_copy 172 = .ok (.iload 4, 2) := by decide +kernel
theorem dX7_copy_174 : decode cX7_copy 174 = .ok (.iadd, 1) := by decide +kernel
theorem dX7_copy_175 : decode cX7_copy 175 = .ok (.iload 6, 2) := by decide +kernel
theorem dX7_copy_177 : decode cX7_copy 177 = .ok (.iadd, 1) := by decide +kernel
theorem dX7_copy_178 : decode cX7_copy 178 = .ok (.aload_n 0, 1) := by decide +kernel
theorem dX7_copy_179 : decode cX7_copy 179 = .ok (.getfield 90, 3) := by decide +kernel
theorem dX7_copy_182 : decode cX7_copy 182 = .ok (.iload 6, 2) := by decide +kernel
theorem dX7_copy_184 : decode cX7_copy 184 = .ok (.iaload, 1) := by decide +kernel
theorem dX7_copy_185 : decode cX7_copy 185 = .ok (.iastore, 1) := by decide +kernel
theorem dX7_copy_186 : decode cX7_copy 186 = .ok (.iinc 6 1, 3) := by decide +kernel
theorem dX7_copy_189 : decode cX7_copy 189 = .ok (.goto (-32), 3) := by decide +kernel
theorem dX7_copy_192 : decode cX7_copy 192 = .ok (.iconst 1, 1) := by decide +kernel
theorem dX7_copy_193 : decode cX7_copy 193 = .ok (.ireturn, 1) := by decide +kernel
theorem dX7_write_0 : decode cX7_write 0 = .ok (.iload_n 1, 1) := by decide +kernel
theorem dX7_write_1 : decode cX7_write 1 = .ok (.invokestatic 143, 3) := by decide +kernel
theorem dX7_write_4 : decode cX7_write 4 = .ok (.ifCond .ne 6, 3) := by decide +kernel
theorem dX7_write_7 : decode cX7_write 7 = .ok (.bipush (-2), 2) := by decide +kernel
theorem dX7_write_9 : decode cX7_write 9 = .ok (.ireturn, 1) := by decide +kernel
theorem dX7_write_10 : decode cX7_write 10 = .ok (.aload_n 0, 1) := by decide +kernel
theorem dX7_write_11 : decode cX7_write 11 = .ok (.getfield 77, 3) := by decide +kernel
theorem dX7_write_14 : decode cX7_write 14 = .ok (.iload_n 1, 1) := by decide +kernel
theorem dX7_write_15 : decode cX7_write 15 = .ok (.baload, 1) := by decide +kernel
theorem dX7_write_16 : decode cX7_write 16 = .ok (.ifCond .ne 9, 3) := by decide +kernel
theorem dX7_write_19 : decode cX7_write 19 = .ok (.aload_n 0, 1) := by decide +kernel
theorem dX7_write_20 : decode cX7_write 20 = .ok (.iconst 1, 1) := by decide +kernel
theorem dX7_write_21 : decode cX7_write 21 = .ok (.invokevirtual 146, 3) := by decide +kernel
theorem dX7_write_24 : decode cX7_write 24 = .ok (.ireturn, 1) := by decide +kernel
theorem dX7_write_25 : decode cX7_write 25 = .ok (.aload_n 0, 1) := by decide +kernel
theorem dX7_write_26 : decode cX7_write 26 = .ok (.invokevirtual 198, 3) := by decide +kernel
theorem dX7_write_29 : decode cX7_write 29 = .ok (.ifCond .ne 6, 3) := by decide +kernel
theorem dX7_write_32 : decode cX7_write 32 = .ok (.bipush (-3), 2) := by decide +kernel
theorem dX7_write_34 : decode cX7_write 34 = .ok (.ireturn, 1) := by decide +kernel
theorem dX7_write_35 : decode cX7_write 35 = .ok (.iconst 0, 1) := by decide +kernel
theorem dX7_write_36 : decode cX7_write 36 = .ok (.istore_n 2, 1) := by decide +kernel
theorem dX7_write_37 : decode cX7_write 37 = .ok (.iload_n 2, 1) := by decide +kernel
theorem dX7_write_38 : decode cX7_write 38 = .ok (.aload_n 0, 1) := by decide +kernel
theorem dX7_write_39 : decode cX7_write 39 = .ok (.getfield 95, 3) := by decide +kernel
theorem dX7_write_42 : decode cX7_write 42 = .ok (.if_icmp .ge 31, 3) := by decide +kernel
theorem dX7_write_45 : decode cX7_write 45 = .ok (.iload_n 2, 1) := by decide +kernel
theorem dX7_write_46 : decode cX7_write 46 = .ok (.aload_n 0, 1) := by decide +kernel
theorem dX7_write_47 : decode cX7_write 47 = .ok (.getfield 84, 3) := by decide +kernel
theorem dX7_write_50 : decode cX7_write 50 = .ok (.iload_n 1, 1) := by decide +kernel
theorem dX7_write_51 : decode cX7_write 51 = .ok (.iaload, 1) := by decide +kernel
theorem dX7_write_52 : decode cX7_write 52 = .ok (.if_icmp .ge 21, 3) := by decide +kernel
theorem dX7_write_55 : decode cX7_write 55 = .ok (.aload_n 0, 1) := by decide +kernel
theorem dX7_write_56 : decode cX7_write 56 = .ok (.iload_n 1, 1) := by decide +kernel
theorem dX7_write_57 : decode cX7_write 57 = .ok (.iload_n 2, 1) := by decide +kernel
theorem dX7_write_58 : decode cX7_write 58 = .ok (.aload_n 0, 1) := by decide +kernel
theorem dX7_write_59 : decode cX7_write 59 = .ok (.getfield 62, 3) := by decide +kernel
theorem dX7_write_62 : decode cX7_write 62 = .ok (.iload_n 2, 1) := by decide +kernel
theorem dX7_write_63 : decode cX7_write 63 = .ok (.iaload, 1) := by decide +kernel
theorem dX7_write_64 : decode cX7_write 64 = .ok (.invokevirtual 266, 3) := by decide +kernel
theorem dX7_write_67 : decode cX7_write 67 = .ok (.iinc 2 1, 3) := by decide +kernel
theorem dX7_write_70 : decode cX7_write 70 = .ok (.goto (-33), 3) := by decide +kernel
theorem dX7_write_73 : decode cX7_write 73 = .ok (.iload_n 2, 1) := by decide +kernel
theorem dX7_write_74 : decode cX7_write 74 = .ok (.ireturn, 1) := by decide +kernel
theorem dX7_countNow_0 : decode cX7_countNow 0 = .ok (.aload_n 0, 1) := by decide +kernel
theorem dX7_countNow_1 : decode cX7_countNow 1 = .ok (.invokevirtual 149, 3) := by decide +kernel
theorem dX7_countNow_4 : decode cX7_countNow 4 = .ok (.iconst 0, 1) := by decide +kernel
theorem dX7_countNow_5 : decode cX7_countNow 5 = .ok (.istore_n 2, 1) := by decide +kernel
theorem dX7_countNow_6 : decode cX7_countNow 6 = .ok (.iconst 0, 1) := by decide +kernel
theorem dX7_countNow_7 : decode cX7_countNow 7 = .ok (.istore_n 3, 1) := by decide +kernel
theorem dX7_countNow_8 : decode cX7_countNow 8 = .ok (.iconst 0, 1) := by decide +kernel
theorem dX7_countNow_9 : decode cX7_countNow 9 = .ok (.istore 4, 2) := by decide +kernel
theorem dX7_countNow_11 : decode cX7_countNow 11 = .ok (.iload 4, 2) := by decide +kernel
theorem dX7_countNow_13 : decode cX7_countNow 13 = .ok (.aload_n 0, 1) := by decide +kernel
theorem dX7_countNow_14 : decode cX7_countNow 14 = .ok (.getfield 95, 3) := by decide +kernel
theorem dX7_countNow_17 : decode cX7_countNow 17 = .ok (.if_icmp .ge 32, 3) := by decide +kernel
theorem dX7_countNow_20 : decode cX7_countNow 20 = .ok (.iload_n 2, 1) := by decide +kernel
theorem dX7_countNow_21 : decode cX7_countNow 21 = .ok (.aload_n 0, 1) := by decide +kernel
theorem dX7_countNow_22 : decode cX7_countNow 22 = .ok (.getfield 53, 3) := by decide +kernel
theorem dX7_countNow_25 : decode cX7_countNow 25 = .ok (.iload 4, 2) := by decide +kernel
theorem dX7_countNow_27 : decode cX7_countNow 27 = .ok (.iaload, 1) := by decide +kernel
theorem dX7_countNow_28 : decode cX7_countNow 28 = .ok (.ior, 1) := by decide +kernel
theorem dX7_countNow_29 : decode cX7_countNow 29 = .ok (.istore_n 2, 1) := by decide +kernel
theorem dX7_countNow_30 : decode cX7_countNow 30 = .ok (.iload_n 3, 1) := by decide +kernel
theorem dX7_countNow_31 : decode cX7_countNow 31 = .ok (.aload_n 0, 1) := by decide +kernel
theorem dX7_countNow_32 : decode cX7_countNow 32 = .ok (.getfield 53, 3) := by decide +kernel
theorem dX7_countNow_35 : decode cX7_countNow 35 = .ok (.iload 4, 2) := by decide +kernel
theorem dX7_countNow_37 : decode cX7_countNow 37 = .ok (.iaload, 1) := by decide +kernel
theorem dX7_countNow_38 : decode cX7_countNow 38 = .ok (.invokestatic 189, 3) := by decide +kernel
theorem dX7_countNow_41 : decode cX7_countNow 41 = .ok (.iadd, 1) := by decide +kernel
theorem dX7_countNow_42 : decode cX7_countNow 42 = .ok (.istore_n 3, 1) := by decide +kernel
theorem dX7_countNow_43 : decode cX7_countNow 43 = .ok (.iinc 4 1, 3) := by decide +kernel
theorem dX7_countNow_46 : decode cX7_countNow 46 = .ok (.goto (-35), 3) := by decide +kernel
theorem dX7_countNow_49 : decode cX7_countNow 49 = .ok (.iload_n 1, 1) := by decide +kernel
theorem dX7_countNow_50 : decode cX7_countNow 50 = .ok (.iconst 2, 1) := by decide +kernel
theorem dX7_countNow_51 : decode cX7_countNow 51 = .ok (.if_icmp .ne 7, 3) := by decide +kernel
theorem dX7_countNow_54 : decode cX7_countNow 54 = .ok (.iload_n 2, 1) := by decide +kernel
theorem dX7_countNow_55 : decode cX7_countNow 55 = .ok (.goto 4, 3) := by decide +kernel
theorem dX7_countNow_58 : decode cX7_countNow 58 = .ok (.iload_n 3, 1) := by decide +kernel
theorem dX7_countNow_59 : decode cX7_countNow 59 = .ok (.ireturn, 1) := by decide +kernel
theorem dX7_count_0 : decode cX7_count 0 = .ok (.iload_n 1, 1) := by decide +kernel
theorem dX7_count_1 : decode cX7_count 1 = .ok (.tableswitch 92 0 8 #[51, 56, 61, 61, 67, 72, 77, 82, 87], 51) := by decide +kernel
theorem dX7_count_52 : decode cX7_count 52 = .ok (.aload_n 0, 1) := by decide +kernel
theorem dX7_count_53 : decode cX7_count 53 = .ok (.getfield 95, 3) := by decide +kernel
theorem dX7_count_56 : decode cX7_count 56 = .ok (.ireturn, 1) := by decide +kernel
theorem dX7_count_57 : decode cX7_count 57 = .ok (.aload_n 0, 1) := by decide +kernel
theorem dX7_count_58 : decode cX7_count 58 = .ok (.getfield 133, 3) := by decide +kernel
theorem dX7_count_61 : decode cX7_count 61 = .ok (.ireturn, 1) := by decide +kernel
theorem dX7_count_62 : decode cX7_count 62 = .ok (.aload_n 0, 1) := by decide +kernel
theorem dX7_count_63 : decode cX7_count 63 = .ok (.iload_n 1, 1) := by decide +kernel
theorem dX7_count_64 : decode cX7_count 64 = .ok (.invokevirtual 271, 3) := by decide +kernel
theorem dX7_count_67 : decode cX7_count 67 = .ok (.ireturn, 1) := by decide +kernel
theorem dX7_count_68 : decode cX7_count 68 = .ok (.aload_n 0, 1) := by decide +kernel
theorem dX7_count_69 : decode cX7_count 69 = .ok (.getfield 116, 3) := by decide +kernel
theorem dX7_count_72 : decode cX7_count 72 = .ok (.ireturn, 1) := by decide +kernel
theorem dX7_count_73 : decode cX7_count 73 = .ok (.aload_n 0, 1) := by decide +kernel
theorem dX7_count_74 : decode cX7_count 74 = .ok (.getfield 119, 3) := by decide +kernel
theorem dX7_count_77 : decode cX7_count 77 = .ok (.ireturn, 1) := by decide +kernel
theorem dX7_count_78 : decode cX7_count 78 = .ok (.aload_n 0, 1) := by decide +kernel
theorem dX7_count_79 : decode cX7_count 79 = .ok (.getfield 37, 3) := by decide +kernel
theorem dX7_count_82 : decode cX7_count 82 = .ok (.ireturn, 1) := by decide +kernel
theorem dX7_count_83 : decode cX7_count 83 = .ok (.aload_n 0, 1) := by decide +kernel
theorem dX7_count_84 : decode cX7_count 84 = .ok (.getfield 110, 3) := by decide +kernel
theorem dX7_count_87 : decode cX7_count 87 = .ok (.ireturn, 1) := by decide +kernel
theorem dX7_count_88 : decode cX7_count 88 = .ok (.aload_n 0, 1) := by decide +kernel
theorem dX7_count_89 : decode cX7_count 89 = .ok (.getfield 259, 3) := by decide +kernel
theorem dX7_count_92 : decode cX7_count 92 = .ok (.ireturn, 1) := by decide +kernel
theorem dX7_count_93 : decode cX7_count 93 = .ok (.bipush (-2), 2) := by decide +kernel
theorem dX7_count_95 : decode cX7_count 95 = .ok (.ireturn, 1) := by decide +kernel
theorem dX7_digest_0 : decode cX7_digest 0 = .ok (.ldc2_w 274, 3) := by decide +kernel
theorem dX7_digest_3 : decode cX7_digest 3 = .ok (.lstore_n 1, 1) := by decide +kernel
theorem dX7_digest_4 : decode cX7_digest 4 = .ok (.iconst 0, 1) := by decide +kernel
theorem dX7_digest_5 : decode cX7_digest 5 = .ok (.istore_n 3, 1) := by decide +kernel
theorem dX7_digest_6 : decode cX7_digest 6 = .ok (.iload_n 3, 1) := by decide +kernel
theorem dX7_digest_7 : decode cX7_digest 7 = .ok (.bipush 8, 2) := by decide +kernel
theorem dX7_digest_9 : decode cX7_digest 9 = .ok (.if_icmp .ge 22, 3) := by decide +kernel
theorem dX7_digest_12 : decode cX7_digest 12 = .ok (.ldc2_w 276, 3) := by decide +kernel
theorem dX7_digest_15 : decode cX7_digest 15 = .ok (.lload_n 1, 1) := by decide +kernel
theorem dX7_digest_16 : decode cX7_digest 16 = .ok (.lmul, 1) := by decide +kernel
theorem dX7_digest_17 : decode cX7_digest 17 = .ok (.aload_n 0, 1) := by decide +kernel
theorem dX7_digest_18 : decode cX7_digest 18 = .ok (.iload_n 3, 1) := by decide +kernel
theorem dX7_digest_19 : decode cX7_digest 19 = .ok (.invokevirtual 278, 3) := by decide +kernel
theorem dX7_digest_22 : decode cX7_digest 22 = .ok (.i2l, 1) := by decide +kernel
theorem dX7_digest_23 : decode cX7_digest 23 = .ok (.ladd, 1) := by decide +kernel
theorem dX7_digest_24 : decode cX7_digest 24 = .ok (.lstore_n 1, 1) := by decide +kernel
theorem dX7_digest_25 : decode cX7_digest 25 = .ok (.iinc 3 1, 3) := by decide +kernel
theorem dX7_digest_28 : decode cX7_digest 28 = .ok (.goto (-22), 3) := by decide +kernel
theorem dX7_digest_31 : decode cX7_digest 31 = .ok (.ldc2_w 276, 3) := by decide +kernel
theorem dX7_digest_34 : decode cX7_digest 34 = .ok (.lload_n 1, 1) := by decide +kernel
theorem dX7_digest_35 : decode cX7_digest 35 = .ok (.lmul, 1) := by decide +kernel
theorem dX7_digest_36 : decode cX7_digest 36 = .ok (.aload_n 0, 1) := by decide +kernel
theorem dX7_digest_37 : decode cX7_digest 37 = .ok (.invokevirtual 129, 3) := by decide +kernel
theorem dX7_digest_40 : decode cX7_digest 40 = .ok (.i2l, 1) := by decide +kernel
theorem dX7_digest_41 : decode cX7_digest 41 = .ok (.ladd, 1) := by decide +kernel
theorem dX7_digest_42 : decode cX7_digest 42 = .ok (.lstore_n 1, 1) := by decide +kernel
theorem dX7_digest_43 : decode cX7_digest 43 = .ok (.aload_n 0, 1) := by decide +kernel
theorem dX7_digest_44 : decode cX7_digest 44 = .ok (.invokevirtual 149, 3) := by decide +kernel
theorem dX7_digest_47 : decode cX7_digest 47 = .ok (.iconst 0, 1) := by decide +kernel
theorem dX7_digest_48 : decode cX7_digest 48 = .ok (.istore_n 3, 1) := by decide +kernel
theorem dX7_digest_49 : decode cX7_digest 49 = .ok (.iload_n 3, 1) := by decide +kernel
theorem dX7_digest_50 : decode cX7_digest 50 = .ok (.aload_n 0, 1) := by decide +kernel
theorem dX7_digest_51 : decode cX7_digest 51 = .ok (.getfield 95, 3) := by decide +kernel
theorem dX7_digest_54 : decode cX7_digest 54 = .ok (.if_icmp .ge 90, 3) := by decide +kernel
theorem dX7_digest_57 : decode cX7_digest 57 = .ok (.ldc2_w 276, 3) := by decide +kernel
theorem dX7_digest_60 : decode cX7_digest 60 = .ok (.lload_n 1, 1) := by decide +kernel
theorem dX7_digest_61 : decode cX7_digest 61 = .ok (.lmul, 1) := by decide +kernel
theorem dX7_digest_62 : decode cX7_digest 62 = .ok (.aload_n 0, 1) := by decide +kernel
theorem dX7_digest_63 : decode cX7_digest 63 = .ok (.getfield 53, 3) := by decide +kernel
theorem dX7_digest_66 : decode cX7_digest 66 = .ok (.iload_n 3, 1) := by decide +kernel
theorem dX7_digest_67 : decode cX7_digest 67 = .ok (.iaload, 1) := by decide +kernel
theorem dX7_digest_68 : decode cX7_digest 68 = .ok (.i2l, 1) := by decide +kernel
theorem dX7_digest_69 : decode cX7_digest 69 = .ok (.ladd, 1) := by decide +kernel
theorem dX7_digest_70 : decode cX7_digest 70 = .ok (.lstore_n 1, 1) := by decide +kernel
theorem dX7_digest_71 : decode cX7_digest 71 = .ok (.ldc2_w 276, 3) := by decide +kernel
theorem dX7_digest_74 : decode cX7_digest 74 = .ok (.lload_n 1, 1) := by decide +kernel
theorem dX7_digest_75 : decode cX7_digest 75 = .ok (.lmul, 1) := by decide +kernel
theorem dX7_digest_76 : decode cX7_digest 76 = .ok (.aload_n 0, 1) := by decide +kernel
theorem dX7_digest_77 : decode cX7_digest 77 = .ok (.iload_n 3, 1) := by decide +kernel
theorem dX7_digest_78 : decode cX7_digest 78 = .ok (.invokevirtual 207, 3) := by decide +kernel
theorem dX7_digest_81 : decode cX7_digest 81 = .ok (.i2l, 1) := by decide +kernel
theorem dX7_digest_82 : decode cX7_digest 82 = .ok (.ladd, 1) := by decide +kernel
theorem dX7_digest_83 : decode cX7_digest 83 = .ok (.lstore_n 1, 1) := by decide +kernel
theorem dX7_digest_84 : decode cX7_digest 84 = .ok (.ldc2_w 276, 3) := by decide +kernel
theorem dX7_digest_87 : decode cX7_digest 87 = .ok (.lload_n 1, 1) := by decide +kernel
theorem dX7_digest_88 : decode cX7_digest 88 = .ok (.lmul, 1) := by decide +kernel
theorem dX7_digest_89 : decode cX7_digest 89 = .ok (.aload_n 0, 1) := by decide +kernel
theorem dX7_digest_90 : decode cX7_digest 90 = .ok (.iload_n 3, 1) := by decide +kernel
theorem dX7_digest_91 : decode cX7_digest 91 = .ok (.invokevirtual 210, 3) := by decide +kernel
theorem dX7_digest_94 : decode cX7_digest 94 = .ok (.i2l, 1) := by decide +kernel
theorem dX7_digest_95 : decode cX7_digest 95 = .ok (.ladd, 1) := by decide +kernel
theorem dX7_digest_96 : decode cX7_digest 96 = .ok (.lstore_n 1, 1) := by decide +kernel
theorem dX7_digest_97 : decode cX7_digest 97 = .ok (.ldc2_w 276, 3) := by decide +kernel
theorem dX7_digest_100 : decode cX7_digest 100 = .ok (.lload_n 1, 1) := by decide +kernel
theorem dX7_digest_101 : decode cX7_digest 101 = .ok (.lmul, 1) := by decide +kernel
theorem dX7_digest_102 : decode cX7_digest 102 = .ok (.aload_n 0, 1) := by decide +kernel
theorem dX7_digest_103 : decode cX7_digest 103 = .ok (.iload_n 3, 1) := by decide +kernel
theorem dX7_digest_104 : decode cX7_digest 104 = .ok (.iconst 0, 1) := by decide +kernel
theorem dX7_digest_105 : decode cX7_digest 105 = .ok (.invokevirtual 246, 3) := by decide +kernel
theorem dX7_digest_108 : decode cX7_digest 108 = .ok (.i2l, 1) := by decide +kernel
theorem dX7_digest_109 : decode cX7_digest 109 = .ok (.ladd, 1) := by decide +kernel
theorem dX7_digest_110 : decode cX7_digest 110 = .ok (.lstore_n 1, 1) := by decide +kernel
theorem dX7_digest_111 : decode cX7_digest 111 = .ok (.ldc2_w 276, 3) := by decide +kernel
theorem dX7_digest_114 : decode cX7_digest 114 = .ok (.lload_n 1, 1) := by decide +kernel
theorem dX7_digest_115 : decode cX7_digest 115 = .ok (.lmul, 1) := by decide +kernel
theorem dX7_digest_116 : decode cX7_digest 116 = .ok (.aload_n 0, 1) := by decide +kernel
theorem dX7_digest_117 : decode cX7_digest 117 = .ok (.iload_n 3, 1) := by decide +kernel
theorem dX7_digest_118 : decode cX7_digest 118 = .ok (.iconst 1, 1) := by decide +kernel
theorem dX7_digest_119 : decode cX7_digest 119 = .ok (.invokevirtual 246, 3) := by decide +kernel
theorem dX7_digest_122 : decode cX7_digest 122 = .ok (.i2l, 1) := by decide +kernel
theorem dX7_digest_123 : decode cX7_digest 123 = .ok (.ladd, 1) := by decide +kernel
theorem dX7_digest_124 : decode cX7_digest 124 = .ok (.lstore_n 1, 1) := by decide +kernel
theorem dX7_digest_125 : decode cX7_digest 125 = .ok (.ldc2_w 276, 3) := by decide +kernel
theorem dX7_digest_128 : decode cX7_digest 128 = .ok (.lload_n 1, 1) := by decide +kernel
theorem dX7_digest_129 : decode cX7_digest 129 = .ok (.lmul, 1) := by decide +kernel
theorem dX7_digest_130 : decode cX7_digest 130 = .ok (.aload_n 0, 1) := by decide +kernel
theorem dX7_digest_131 : decode cX7_digest 131 = .ok (.iload_n 3, 1) := by decide +kernel
theorem dX7_digest_132 : decode cX7_digest 132 = .ok (.invokevirtual 256, 3) := by decide +kernel
theorem dX7_digest_135 : decode cX7_digest 135 = .ok (.i2l, 1) := by decide +kernel
theorem dX7_digest_136 : decode cX7_digest 136 = .ok (.ladd, 1) := by decide +kernel
theorem dX7_digest_137 : decode cX7_digest 137 = .ok (.lstore_n 1, 1) := by decide +kernel
theorem dX7_digest_138 : decode cX7_digest 138 = .ok (.iinc 3 1, 3) := by decide +kernel
theorem dX7_digest_141 : decode cX7_digest 141 = .ok (.goto (-92), 3) := by decide +kernel
theorem dX7_digest_144 : decode cX7_digest 144 = .ok (.iconst 0, 1) := by decide +kernel
theorem dX7_digest_145 : decode cX7_digest 145 = .ok (.istore_n 3, 1) := by decide +kernel
theorem dX7_digest_146 : decode cX7_digest 146 = .ok (.iload_n 3, 1) := by decide +kernel
theorem dX7_digest_147 : decode cX7_digest 147 = .ok (.iconst 3, 1) := by decide +kernel
theorem dX7_digest_148 : decode cX7_digest 148 = .ok (.if_icmp .ge 22, 3) := by decide +kernel
theorem dX7_digest_151 : decode cX7_digest 151 = .ok (.ldc2_w 276, 3) := by decide +kernel
theorem dX7_digest_154 : decode cX7_digest 154 = .ok (.lload_n 1, 1) := by decide +kernel
theorem dX7_digest_155 : decode cX7_digest 155 = .ok (.lmul, 1) := by decide +kernel
theorem dX7_digest_156 : decode cX7_digest 156 = .ok (.aload_n 0, 1) := by decide +kernel
theorem dX7_digest_157 : decode cX7_digest 157 = .ok (.iload_n 3, 1) := by decide +kernel
theorem dX7_digest_158 : decode cX7_digest 158 = .ok (.invokevirtual 204, 3) := by decide +kernel
theorem dX7_digest_161 : decode cX7_digest 161 = .ok (.i2l, 1) := by decide +kernel
theorem dX7_digest_162 : decode cX7_digest 162 = .ok (.ladd, 1) := by decide +kernel
theorem dX7_digest_163 : decode cX7_digest 163 = .ok (.lstore_n 1, 1) := by decide +kernel
theorem dX7_digest_164 : decode cX7_digest 164 = .ok (.iinc 3 1, 3) := by decide +kernel
theorem dX7_digest_167 : decode cX7_digest 167 = .ok (.goto (-21), 3) := by decide +kernel
theorem dX7_digest_170 : decode cX7_digest 170 = .ok (.ldc2_w 276, 3) := by decide +kernel
theorem dX7_digest_173 : decode cX7_digest 173 = .ok (.lload_n 1, 1) := by decide +kernel
theorem dX7_digest_174 : decode cX7_digest 174 = .ok (.lmul, 1) := by decide +kernel
theorem dX7_digest_175 : decode cX7_digest 175 = .ok (.aload_n 0, 1) := by decide +kernel
theorem dX7_digest_176 : decode cX7_digest 176 = .ok (.iconst 0, 1) := by decide +kernel
theorem dX7_digest_177 : decode cX7_digest 177 = .ok (.iconst 1, 1) := by decide +kernel
theorem dX7_digest_178 : decode cX7_digest 178 = .ok (.invokevirtual 213, 3) := by decide +kernel
theorem dX7_digest_181 : decode cX7_digest 181 = .ok (.i2l, 1) := by decide +kernel
theorem dX7_digest_182 : decode cX7_digest 182 = .ok (.ladd, 1) := by decide +kernel
theorem dX7_digest_183 : decode cX7_digest 183 = .ok (.lstore_n 1, 1) := by decide +kernel
theorem dX7_digest_184 : decode cX7_digest 184 = .ok (.ldc2_w 276, 3) := by decide +kernel
theorem dX7_digest_187 : decode cX7_digest 187 = .ok (.lload_n 1, 1) := by decide +kernel
theorem dX7_digest_188 : decode cX7_digest 188 = .ok (.lmul, 1) := by decide +kernel
theorem dX7_digest_189 : decode cX7_digest 189 = .ok (.aload_n 0, 1) := by decide +kernel
theorem dX7_digest_190 : decode cX7_digest 190 = .ok (.iconst 0, 1) := by decide +kernel
theorem dX7_digest_191 : decode cX7_digest 191 = .ok (.invokevirtual 225, 3) := by decide +kernel
theorem dX7_digest_194 : decode cX7_digest 194 = .ok (.ladd, 1) := by decide +kernel
theorem dX7_digest_195 : decode cX7_digest 195 = .ok (.lstore_n 1, 1) := by decide +kernel
theorem dX7_digest_196 : decode cX7_digest 196 = .ok (.ldc2_w 276, 3) := by decide +kernel
theorem dX7_digest_199 : decode cX7_digest 199 = .ok (.lload_n 1, 1) := by decide +kernel
theorem dX7_digest_200 : decode cX7_digest 200 = .ok (.lmul, 1) := by decide +kernel
theorem dX7_digest_201 : decode cX7_digest 201 = .ok (.aload_n 0, 1) := by decide +kernel
theorem dX7_digest_202 : decode cX7_digest 202 = .ok (.iconst 1, 1) := by decide +kernel
theorem dX7_digest_203 : decode cX7_digest 203 = .ok (.invokevirtual 225, 3) := by decide +kernel
theorem dX7_digest_206 : decode cX7_digest 206 = .ok (.ladd, 1) := by decide +kernel
theorem dX7_digest_207 : decode cX7_digest 207 = .ok (.lstore_n 1, 1) := by decide +kernel
theorem dX7_digest_208 : decode cX7_digest 208 = .ok (.ldc2_w 276, 3) := by decide +kernel
theorem dX7_digest_211 : decode cX7_digest 211 = .ok (.lload_n 1, 1) := by decide +kernel
theorem dX7_digest_212 : decode cX7_digest 212 = .ok (.lmul, 1) := by decide +kernel
theorem dX7_digest_213 : decode cX7_digest 213 = .ok (.aload_n 0, 1) := by decide +kernel
theorem dX7_digest_214 : decode cX7_digest 214 = .ok (.invokevirtual 228, 3) := by decide +kernel
theorem dX7_digest_217 : decode cX7_digest 217 = .ok (.i2l, 1) := by decide +kernel
theorem dX7_digest_218 : decode cX7_digest 218 = .ok (.ladd, 1) := by decide +kernel
theorem dX7_digest_219 : decode cX7_digest 219 = .ok (.lstore_n 1, 1) := by decide +kernel
theorem dX7_digest_220 : decode cX7_digest 220 = .ok (.ldc2_w 276, 3) := by decide +kernel
theorem dX7_digest_223 : decode cX7_digest 223 = .ok (.lload_n 1, 1) := by decide +kernel
theorem dX7_digest_224 : decode cX7_digest 224 = .ok (.lmul, 1) := by decide +kernel
theorem dX7_digest_225 : decode cX7_digest 225 = .ok (.aload_n 0, 1) := by decide +kernel
theorem dX7_digest_226 : decode cX7_digest 226 = .ok (.iconst 2, 1) := by decide +kernel
theorem dX7_digest_227 : decode cX7_digest 227 = .ok (.iconst (-1), 1) := by decide +kernel
theorem dX7_digest_228 : decode cX7_digest 228 = .ok (.invokevirtual 240, 3) := by decide +kernel
theorem dX7_digest_231 : decode cX7_digest 231 = .ok (.i2l, 1) := by decide +kernel
theorem dX7_digest_232 : decode cX7_digest 232 = .ok (.ladd, 1) := by decide +kernel
theorem dX7_digest_233 : decode cX7_digest 233 = .ok (.lstore_n 1, 1) := by decide +kernel
theorem dX7_digest_234 : decode cX7_digest 234 = .ok (.iconst 0, 1) := by decide +kernel
theorem dX7_digest_235 : decode cX7_digest 235 = .ok (.istore_n 3, 1) := by decide +kernel
theorem dX7_digest_236 : decode cX7_digest 236 = .ok (.iload_n 3, 1) := by decide +kernel
theorem dX7_digest_237 : decode cX7_digest 237 = .ok (.bipush 10, 2) := by decide +kernel
theorem dX7_digest_239 : decode cX7_digest 239 = .ok (.if_icmp .ge 22, 3) := by decide +kernel
theorem dX7_digest_242 : decode cX7_digest 242 = .ok (.ldc2_w 276, 3) := by decide +kernel
theorem dX7_digest_245 : decode cX7_digest 245 = .ok (.lload_n 1, 1) := by decide +kernel
theorem dX7_digest_246 : decode cX7_digest 246 = .ok (.lmul, 1) := by decide +kernel
theorem dX7_digest_247 : decode cX7_digest 247 = .ok (.aload_n 0, 1) := by decide +kernel
theorem dX7_digest_248 : decode cX7_digest 248 = .ok (.iload_n 3, 1) := by decide +kernel
theorem dX7_digest_249 : decode cX7_digest 249 = .ok (.invokevirtual 231, 3) := by decide +kernel
theorem dX7_digest_252 : decode cX7_digest 252 = .ok (.i2l, 1) := by decide +kernel
theorem dX7_digest_253 : decode cX7_digest 253 = .ok (.ladd, 1) := by decide +kernel
theorem dX7_digest_254 : decode cX7_digest 254 = .ok (.lstore_n 1, 1) := by decide +kernel
theorem dX7_digest_255 : decode cX7_digest 255 = .ok (.iinc 3 1, 3) := by decide +kernel
theorem dX7_digest_258 : decode cX7_digest 258 = .ok (.goto (-22), 3) := by decide +kernel
theorem dX7_digest_261 : decode cX7_digest 261 = .ok (.lload_n 1, 1) := by decide +kernel
theorem dX7_digest_262 : decode cX7_digest 262 = .ok (.lreturn, 1) := by decide +kernel
theorem dJ6_numberOfTrailingZeros_0f7a4_0 : decode cJ6_numberOfTrailingZeros_0f7a4 0 = .ok (.iload_n 0, 1) := by decide +kernel
theorem dJ6_numberOfTrailingZeros_0f7a4_1 : decode cJ6_numberOfTrailingZeros_0f7a4 1 = .ok (.iconst (-1), 1) := by decide +kernel
theorem dJ6_numberOfTrailingZeros_0f7a4_2 : decode cJ6_numberOfTrailingZeros_0f7a4 2 = .ok (.ixor, 1) := by decide +kernel
theorem dJ6_numberOfTrailingZeros_0f7a4_3 : decode cJ6_numberOfTrailingZeros_0f7a4 3 = .ok (.iload_n 0, 1) := by decide +kernel
theorem dJ6_numberOfTrailingZeros_0f7a4_4 : decode cJ6_numberOfTrailingZeros_0f7a4 4 = .ok (.iconst 1, 1) := by decide +kernel
theorem dJ6_numberOfTrailingZeros_0f7a4_5 : decode cJ6_numberOfTrailingZeros_0f7a4 5 = .ok (.isub, 1) := by decide +kernel
theorem dJ6_numberOfTrailingZeros_0f7a4_6 : decode cJ6_numberOfTrailingZeros_0f7a4 6 = .ok (.iand, 1) := by decide +kernel
theorem dJ6_numberOfTrailingZeros_0f7a4_7 : decode cJ6_numberOfTrailingZeros_0f7a4 7 = .ok (.istore_n 0, 1) := by decide +kernel
theorem dJ6_numberOfTrailingZeros_0f7a4_8 : decode cJ6_numberOfTrailingZeros_0f7a4 8 = .ok (.iload_n 0, 1) := by decide +kernel
theorem dJ6_numberOfTrailingZeros_0f7a4_9 : decode cJ6_numberOfTrailingZeros_0f7a4 9 = .ok (.ifCond .gt 8, 3) := by decide +kernel
theorem dJ6_numberOfTrailingZeros_0f7a4_12 : decode cJ6_numberOfTrailingZeros_0f7a4 12 = .ok (.iload_n 0, 1) := by decide +kernel
theorem dJ6_numberOfTrailingZeros_0f7a4_13 : decode cJ6_numberOfTrailingZeros_0f7a4 13 = .ok (.bipush 32, 2) := by decide +kernel
theorem dJ6_numberOfTrailingZeros_0f7a4_15 : decode cJ6_numberOfTrailingZeros_0f7a4 15 = .ok (.iand, 1) := by decide +kernel
theorem dJ6_numberOfTrailingZeros_0f7a4_16 : decode cJ6_numberOfTrailingZeros_0f7a4 16 = .ok (.ireturn, 1) := by decide +kernel
theorem dJ6_numberOfTrailingZeros_0f7a4_17 : decode cJ6_numberOfTrailingZeros_0f7a4 17 = .ok (.iconst 1, 1) := by decide +kernel
theorem dJ6_numberOfTrailingZeros_0f7a4_18 : decode cJ6_numberOfTrailingZeros_0f7a4 18 = .ok (.istore_n 1, 1) := by decide +kernel
theorem dJ6_numberOfTrailingZeros_0f7a4_19 : decode cJ6_numberOfTrailingZeros_0f7a4 19 = .ok (.iload_n 0, 1) := by decide +kernel
theorem dJ6_numberOfTrailingZeros_0f7a4_20 : decode cJ6_numberOfTrailingZeros_0f7a4 20 = .ok (.ldc_w 264, 3) := by decide +kernel
theorem dJ6_numberOfTrailingZeros_0f7a4_23 : decode cJ6_numberOfTrailingZeros_0f7a4 23 = .ok (.if_icmp .le 11, 3) := by decide +kernel
theorem dJ6_numberOfTrailingZeros_0f7a4_26 : decode cJ6_numberOfTrailingZeros_0f7a4 26 = .ok (.iinc 1 16, 3) := by decide +kernel
theorem dJ6_numberOfTrailingZeros_0f7a4_29 : decode cJ6_numberOfTrailingZeros_0f7a4 29 = .ok (.iload_n 0, 1) := by decide +kernel
theorem dJ6_numberOfTrailingZeros_0f7a4_30 : decode cJ6_numberOfTrailingZeros_0f7a4 30 = .ok (.bipush 16, 2) := by decide +kernel
theorem dJ6_numberOfTrailingZeros_0f7a4_32 : decode cJ6_numberOfTrailingZeros_0f7a4 32 = .ok (.iushr, 1) := by decide +kernel
theorem dJ6_numberOfTrailingZeros_0f7a4_33 : decode cJ6_numberOfTrailingZeros_0f7a4 33 = .ok (.istore_n 0, 1) := by decide +kernel
theorem dJ6_numberOfTrailingZeros_0f7a4_34 : decode cJ6_numberOfTrailingZeros_0f7a4 34 = .ok (.iload_n 0, 1) := by decide +kernel
theorem dJ6_numberOfTrailingZeros_0f7a4_35 : decode cJ6_numberOfTrailingZeros_0f7a4 35 = .ok (.sipush 256, 3) := by decide +kernel
theorem dJ6_numberOfTrailingZeros_0f7a4_38 : decode cJ6_numberOfTrailingZeros_0f7a4 38 = .ok (.if_icmp .le 11, 3) := by decide +kernel
theorem dJ6_numberOfTrailingZeros_0f7a4_41 : decode cJ6_numberOfTrailingZeros_0f7a4 41 = .ok (.iinc 1 8, 3) := by decide +kernel
theorem dJ6_numberOfTrailingZeros_0f7a4_44 : decode cJ6_numberOfTrailingZeros_0f7a4 44 = .ok (.iload_n 0, 1) := by decide +kernel
theorem dJ6_numberOfTrailingZeros_0f7a4_45 : decode cJ6_numberOfTrailingZeros_0f7a4 45 = .ok (.bipush 8, 2) := by decide +kernel
theorem dJ6_numberOfTrailingZeros_0f7a4_47 : decode cJ6_numberOfTrailingZeros_0f7a4 47 = .ok (.iushr, 1) := by decide +kernel
theorem dJ6_numberOfTrailingZeros_0f7a4_48 : decode cJ6_numberOfTrailingZeros_0f7a4 48 = .ok (.istore_n 0, 1) := by decide +kernel
theorem dJ6_numberOfTrailingZeros_0f7a4_49 : decode cJ6_numberOfTrailingZeros_0f7a4 49 = .ok (.iload_n 0, 1) := by decide +kernel
theorem dJ6_numberOfTrailingZeros_0f7a4_50 : decode cJ6_numberOfTrailingZeros_0f7a4 50 = .ok (.bipush 16, 2) := by decide +kernel
theorem dJ6_numberOfTrailingZeros_0f7a4_52 : decode cJ6_numberOfTrailingZeros_0f7a4 52 = .ok (.if_icmp .le 10, 3) := by decide +kernel
theorem dJ6_numberOfTrailingZeros_0f7a4_55 : decode cJ6_numberOfTrailingZeros_0f7a4 55 = .ok (.iinc 1 4, 3) := by decide +kernel
theorem dJ6_numberOfTrailingZeros_0f7a4_58 : decode cJ6_numberOfTrailingZeros_0f7a4 58 = .ok (.iload_n 0, 1) := by decide +kernel
theorem dJ6_numberOfTrailingZeros_0f7a4_59 : decode cJ6_numberOfTrailingZeros_0f7a4 59 = .ok (.iconst 4, 1) := by decide +kernel
theorem dJ6_numberOfTrailingZeros_0f7a4_60 : decode cJ6_numberOfTrailingZeros_0f7a4 60 = .ok (.iushr, 1) := by decide +kernel
theorem dJ6_numberOfTrailingZeros_0f7a4_61 : decode cJ6_numberOfTrailingZeros_0f7a4 61 = .ok (.istore_n 0, 1) := by decide +kernel
theorem dJ6_numberOfTrailingZeros_0f7a4_62 : decode cJ6_numberOfTrailingZeros_0f7a4 62 = .ok (.iload_n 0, 1) := by decide +kernel
theorem dJ6_numberOfTrailingZeros_0f7a4_63 : decode cJ6_numberOfTrailingZeros_0f7a4 63 = .ok (.iconst 4, 1) := by decide +kernel
theorem dJ6_numberOfTrailingZeros_0f7a4_64 : decode cJ6_numberOfTrailingZeros_0f7a4 64 = .ok (.if_icmp .le 10, 3) := by decide +kernel
theorem dJ6_numberOfTrailingZeros_0f7a4_67 : decode cJ6_numberOfTrailingZeros_0f7a4 67 = .ok (.iinc 1 2, 3) := by decide +kernel
theorem dJ6_numberOfTrailingZeros_0f7a4_70 : decode cJ6_numberOfTrailingZeros_0f7a4 70 = .ok (.iload_n 0, 1) := by decide +kernel
theorem dJ6_numberOfTrailingZeros_0f7a4_71 : decode cJ6_numberOfTrailingZeros_0f7a4 71 = .ok (.iconst 2, 1) := by decide +kernel
theorem dJ6_numberOfTrailingZeros_0f7a4_72 : decode cJ6_numberOfTrailingZeros_0f7a4 72 = .ok (.iushr, 1) := by decide +kernel
theorem dJ6_numberOfTrailingZeros_0f7a4_73 : decode cJ6_numberOfTrailingZeros_0f7a4 73 = .ok (.istore_n 0, 1) := by decide +kernel
theorem dJ6_numberOfTrailingZeros_0f7a4_74 : decode cJ6_numberOfTrailingZeros_0f7a4 74 = .ok (.iload_n 1, 1) := by decide +kernel
theorem dJ6_numberOfTrailingZeros_0f7a4_75 : decode cJ6_numberOfTrailingZeros_0f7a4 75 = .ok (.iload_n 0, 1) := by decide +kernel
theorem dJ6_numberOfTrailingZeros_0f7a4_76 : decode cJ6_numberOfTrailingZeros_0f7a4 76 = .ok (.iconst 1, 1) := by decide +kernel
theorem dJ6_numberOfTrailingZeros_0f7a4_77 : decode cJ6_numberOfTrailingZeros_0f7a4 77 = .ok (.iushr, 1) := by decide +kernel
theorem dJ6_numberOfTrailingZeros_0f7a4_78 : decode cJ6_numberOfTrailingZeros_0f7a4 78 = .ok (.iadd, 1) := by decide +kernel
theorem dJ6_numberOfTrailingZeros_0f7a4_79 : decode cJ6_numberOfTrailingZeros_0f7a4 79 = .ok (.ireturn, 1) := by decide +kernel
theorem dJ6_bitCount_0f7a4_0 : decode cJ6_bitCount_0f7a4 0 = .ok (.iload_n 0, 1) := by decide +kernel
theorem dJ6_bitCount_0f7a4_1 : decode cJ6_bitCount_0f7a4 1 = .ok (.iload_n 0, 1) := by decide +kernel
theorem dJ6_bitCount_0f7a4_2 : decode cJ6_bitCount_0f7a4 2 = .ok (.iconst 1, 1) := by decide +kernel
theorem dJ6_bitCount_0f7a4_3 : decode cJ6_bitCount_0f7a4 3 = .ok (.iushr, 1) := by decide +kernel
theorem dJ6_bitCount_0f7a4_4 : decode cJ6_bitCount_0f7a4 4 = .ok (.ldc_w 265, 3) := by decide +kernel
theorem dJ6_bitCount_0f7a4_7 : decode cJ6_bitCount_0f7a4 7 = .ok (.iand, 1) := by decide +kernel
theorem dJ6_bitCount_0f7a4_8 : decode cJ6_bitCount_0f7a4 8 = .ok (.isub, 1) := by decide +kernel
theorem dJ6_bitCount_0f7a4_9 : decode cJ6_bitCount_0f7a4 9 = .ok (.istore_n 0, 1) := by decide +kernel
theorem dJ6_bitCount_0f7a4_10 : decode cJ6_bitCount_0f7a4 10 = .ok (.iload_n 0, 1) := by decide +kernel
theorem dJ6_bitCount_0f7a4_11 : decode cJ6_bitCount_0f7a4 11 = .ok (.ldc_w 266, 3) := by decide +kernel
theorem dJ6_bitCount_0f7a4_14 : decode cJ6_bitCount_0f7a4 14 = .ok (.iand, 1) := by decide +kernel
theorem dJ6_bitCount_0f7a4_15 : decode cJ6_bitCount_0f7a4 15 = .ok (.iload_n 0, 1) := by decide +kernel
theorem dJ6_bitCount_0f7a4_16 : decode cJ6_bitCount_0f7a4 16 = .ok (.iconst 2, 1) := by decide +kernel
theorem dJ6_bitCount_0f7a4_17 : decode cJ6_bitCount_0f7a4 17 = .ok (.iushr, 1) := by decide +kernel
theorem dJ6_bitCount_0f7a4_18 : decode cJ6_bitCount_0f7a4 18 = .ok (.ldc_w 266, 3) := by decide +kernel
theorem dJ6_bitCount_0f7a4_21 : decode cJ6_bitCount_0f7a4 21 = .ok (.iand, 1) := by decide +kernel
theorem dJ6_bitCount_0f7a4_22 : decode cJ6_bitCount_0f7a4 22 = .ok (.iadd, 1) := by decide +kernel
theorem dJ6_bitCount_0f7a4_23 : decode cJ6_bitCount_0f7a4 23 = .ok (.istore_n 0, 1) := by decide +kernel
theorem dJ6_bitCount_0f7a4_24 : decode cJ6_bitCount_0f7a4 24 = .ok (.iload_n 0, 1) := by decide +kernel
theorem dJ6_bitCount_0f7a4_25 : decode cJ6_bitCount_0f7a4 25 = .ok (.iload_n 0, 1) := by decide +kernel
theorem dJ6_bitCount_0f7a4_26 : decode cJ6_bitCount_0f7a4 26 = .ok (.iconst 4, 1) := by decide +kernel
theorem dJ6_bitCount_0f7a4_27 : decode cJ6_bitCount_0f7a4 27 = .ok (.iushr, 1) := by decide +kernel
theorem dJ6_bitCount_0f7a4_28 : decode cJ6_bitCount_0f7a4 28 = .ok (.iadd, 1) := by decide +kernel
theorem dJ6_bitCount_0f7a4_29 : decode cJ6_bitCount_0f7a4 29 = .ok (.ldc_w 267, 3) := by decide +kernel
theorem dJ6_bitCount_0f7a4_32 : decode cJ6_bitCount_0f7a4 32 = .ok (.iand, 1) := by decide +kernel
theorem dJ6_bitCount_0f7a4_33 : decode cJ6_bitCount_0f7a4 33 = .ok (.istore_n 0, 1) := by decide +kernel
theorem dJ6_bitCount_0f7a4_34 : decode cJ6_bitCount_0f7a4 34 = .ok (.iload_n 0, 1) := by decide +kernel
theorem dJ6_bitCount_0f7a4_35 : decode cJ6_bitCount_0f7a4 35 = .ok (.iload_n 0, 1) := by decide +kernel
theorem dJ6_bitCount_0f7a4_36 : decode cJ6_bitCount_0f7a4 36 = .ok (.bipush 8, 2) := by decide +kernel
theorem dJ6_bitCount_0f7a4_38 : decode cJ6_bitCount_0f7a4 38 = .ok (.iushr, 1) := by decide +kernel
theorem dJ6_bitCount_0f7a4_39 : decode cJ6_bitCount_0f7a4 39 = .ok (.iadd, 1) := by decide +kernel
theorem dJ6_bitCount_0f7a4_40 : decode cJ6_bitCount_0f7a4 40 = .ok (.istore_n 0, 1) := by decide +kernel
theorem dJ6_bitCount_0f7a4_41 : decode cJ6_bitCount_0f7a4 41 = .ok (.iload_n 0, 1) := by decide +kernel
theorem dJ6_bitCount_0f7a4_42 : decode cJ6_bitCount_0f7a4 42 = .ok (.iload_n 0, 1) := by decide +kernel
theorem dJ6_bitCount_0f7a4_43 : decode cJ6_bitCount_0f7a4 43 = .ok (.bipush 16, 2) := by decide +kernel
theorem dJ6_bitCount_0f7a4_45 : decode cJ6_bitCount_0f7a4 45 = .ok (.iushr, 1) := by decide +kernel
theorem dJ6_bitCount_0f7a4_46 : decode cJ6_bitCount_0f7a4 46 = .ok (.iadd, 1) := by decide +kernel
theorem dJ6_bitCount_0f7a4_47 : decode cJ6_bitCount_0f7a4 47 = .ok (.istore_n 0, 1) := by decide +kernel
theorem dJ6_bitCount_0f7a4_48 : decode cJ6_bitCount_0f7a4 48 = .ok (.iload_n 0, 1) := by decide +kernel
theorem dJ6_bitCount_0f7a4_49 : decode cJ6_bitCount_0f7a4 49 = .ok (.bipush 63, 2) := by decide +kernel
theorem dJ6_bitCount_0f7a4_51 : decode cJ6_bitCount_0f7a4 51 = .ok (.iand, 1) := by decide +kernel
theorem dJ6_bitCount_0f7a4_52 : decode cJ6_bitCount_0f7a4 52 = .ok (.ireturn, 1) := by decide +kernel
theorem dJ9_max_7cf53_0 : decode cJ9_max_7cf53 0 = .ok (.iload_n 0, 1) := by decide +kernel
theorem dJ9_max_7cf53_1 : decode cJ9_max_7cf53 1 = .ok (.iload_n 1, 1) := by decide +kernel
theorem dJ9_max_7cf53_2 : decode cJ9_max_7cf53 2 = .ok (.if_icmp .lt 7, 3) := by decide +kernel
theorem dJ9_max_7cf53_5 : decode cJ9_max_7cf53 5 = .ok (.iload_n 0, 1) := by decide +kernel
theorem dJ9_max_7cf53_6 : decode cJ9_max_7cf53 6 = .ok (.goto 4, 3) := by decide +kernel
theorem dJ9_max_7cf53_9 : decode cJ9_max_7cf53 9 = .ok (.iload_n 1, 1) := by decide +kernel
theorem dJ9_max_7cf53_10 : decode cJ9_max_7cf53 10 = .ok (.ireturn, 1) := by decide +kernel
theorem dJ9_min_7cf53_0 : decode cJ9_min_7cf53 0 = .ok (.iload_n 0, 1) := by decide +kernel
theorem dJ9_min_7cf53_1 : decode cJ9_min_7cf53 1 = .ok (.iload_n 1, 1) := by decide +kernel
theorem dJ9_min_7cf53_2 : decode cJ9_min_7cf53 2 = .ok (.if_icmp .gt 7, 3) := by decide +kernel
theorem dJ9_min_7cf53_5 : decode cJ9_min_7cf53 5 = .ok (.iload_n 0, 1) := by decide +kernel
theorem dJ9_min_7cf53_6 : decode cJ9_min_7cf53 6 = .ok (.goto 4, 3) := by decide +kernel
theorem dJ9_min_7cf53_9 : decode cJ9_min_7cf53 9 = .ok (.iload_n 1, 1) := by decide +kernel
theorem dJ9_min_7cf53_10 : decode cJ9_min_7cf53 10 = .ok (.ireturn, 1) := by decide +kernel
