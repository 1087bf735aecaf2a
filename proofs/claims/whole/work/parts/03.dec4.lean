theorem dX12_layFar_21 : decode cX12_layFar 21 = .ok (.goto 6, 3) := by decide +kernel
theorem dX12_layFar_24 : decode cX12_layFar 24 = .ok (.sipush 1000, 3) := by decide +kernel
theorem dX12_layFar_27 : decode cX12_layFar 27 = .ok (.iastore, 1) := by decide +kernel
theorem dX12_layFar_28 : decode cX12_layFar 28 = .ok (.iinc 1 1, 3) := by decide +kernel
theorem dX12_layFar_31 : decode cX12_layFar 31 = .ok (.goto (-29), 3) := by decide +kernel
theorem dX12_layFar_34 : decode cX12_layFar 34 = .ok (.iconst 0, 1) := by decide +kernel
theorem dX12_layFar_35 : decode cX12_layFar 35 = .ok (.istore_n 1, 1) := by decide +kernel
theorem dX12_layFar_36 : decode cX12_layFar 36 = .ok (.iload_n 1, 1) := by decide +kernel
theorem dX12_layFar_37 : decode cX12_layFar 37 = .ok (.aload_n 0, 1) := by decide +kernel
theorem dX12_layFar_38 : decode cX12_layFar 38 = .ok (.getfield 398, 3) := by decide +kernel
theorem dX12_layFar_41 : decode cX12_layFar 41 = .ok (.if_icmp .ge 74, 3) := by decide +kernel
theorem dX12_layFar_44 : decode cX12_layFar 44 = .ok (.aload_n 0, 1) := by decide +kernel
theorem dX12_layFar_45 : decode cX12_layFar 45 = .ok (.iload_n 1, 1) := by decide +kernel
theorem dX12_layFar_46 : decode cX12_layFar 46 = .ok (.invokevirtual 430, 3) := by decide +kernel
theorem dX12_layFar_49 : decode cX12_layFar 49 = .ok (.ifCond .eq 6, 3) := by decide +kernel
theorem dX12_layFar_52 : decode cX12_layFar 52 = .ok (.goto 57, 3) := by decide +kernel
theorem dX12_layFar_55 : decode cX12_layFar 55 = .ok (.aload_n 0, 1) := by decide +kernel
theorem dX12_layFar_56 : decode cX12_layFar 56 = .ok (.getfield 105, 3) := by decide +kernel
theorem dX12_layFar_59 : decode cX12_layFar 59 = .ok (.bipush 7, 2) := by decide +kernel
theorem dX12_layFar_61 : decode cX12_layFar 61 = .ok (.aload_n 0, 1) := by decide +kernel
theorem dX12_layFar_62 : decode cX12_layFar 62 = .ok (.getfield 51, 3) := by decide +kernel
theorem dX12_layFar_65 : decode cX12_layFar 65 = .ok (.iload_n 1, 1) := by decide +kernel
theorem dX12_layFar_66 : decode cX12_layFar 66 = .ok (.iaload, 1) := by decide +kernel
theorem dX12_layFar_67 : decode cX12_layFar 67 = .ok (.imul, 1) := by decide +kernel
theorem dX12_layFar_68 : decode cX12_layFar 68 = .ok (.aload_n 0, 1) := by decide +kernel
theorem dX12_layFar_69 : decode cX12_layFar 69 = .ok (.getfield 54, 3) := by decide +kernel
theorem dX12_layFar_72 : decode cX12_layFar 72 = .ok (.iload_n 1, 1) := by decide +kernel
theorem dX12_layFar_73 : decode cX12_layFar 73 = .ok (.iaload, 1) := by decide +kernel
theorem dX12_layFar_74 : decode cX12_layFar 74 = .ok (.iadd, 1) := by decide +kernel
theorem dX12_layFar_75 : decode cX12_layFar 75 = .ok (.aload_n 0, 1) := by decide +kernel
theorem dX12_layFar_76 : decode cX12_layFar 76 = .ok (.getfield 57, 3) := by decide +kernel
theorem dX12_layFar_79 : decode cX12_layFar 79 = .ok (.iload_n 1, 1) := by decide +kernel
theorem dX12_layFar_80 : decode cX12_layFar 80 = .ok (.iaload, 1) := by decide +kernel
theorem dX12_layFar_81 : decode cX12_layFar 81 = .ok (.iastore, 1) := by decide +kernel
theorem dX12_layFar_82 : decode cX12_layFar 82 = .ok (.aload_n 0, 1) := by decide +kernel
theorem dX12_layFar_83 : decode cX12_layFar 83 = .ok (.getfield 105, 3) := by decide +kernel
theorem dX12_layFar_86 : decode cX12_layFar 86 = .ok (.bipush 7, 2) := by decide +kernel
theorem dX12_layFar_88 : decode cX12_layFar 88 = .ok (.aload_n 0, 1) := by decide +kernel
theorem dX12_layFar_89 : decode cX12_layFar 89 = .ok (.getfield 54, 3) := by decide +kernel
theorem dX12_layFar_92 : decode cX12_layFar 92 = .ok (.iload_n 1, 1) := by decide +kernel
theorem dX12_layFar_93 : decode cX12_layFar 93 = .ok (.iaload, 1) := by decide +kernel
theorem dX12_layFar_94 : decode cX12_layFar 94 = .ok (.imul, 1) := by decide +kernel
theorem dX12_layFar_95 : decode cX12_layFar 95 = .ok (.aload_n 0, 1) := by decide +kernel
theorem dX12_layFar_96 : decode cX12_layFar 96 = .ok (.getfield 51, 3) := by decide +kernel
theorem dX12_layFar_99 : decode cX12_layFar 99 = .ok (.iload_n 1, 1) := by decide +kernel
theorem dX12_layFar_100 : decode cX12_layFar 100 = .ok (.iaload, 1) := by decide +kernel
theorem dX12_layFar_101 : decode cX12_layFar 101 = .ok (.iadd, 1) := by decide +kernel
theorem dX12_layFar_102 : decode cX12_layFar 102 = .ok (.aload_n 0, 1) := by decide +kernel
theorem dX12_layFar_103 : decode cX12_layFar 103 = .ok (.getfield 57, 3) := by decide +kernel
theorem dX12_layFar_106 : decode cX12_layFar 106 = .ok (.iload_n 1, 1) := by decide +kernel
theorem dX12_layFar_107 : decode cX12_layFar 107 = .ok (.iaload, 1) := by decide +kernel
theorem dX12_layFar_108 : decode cX12_layFar 108 = .ok (.iastore, 1) := by decide +kernel
theorem dX12_layFar_109 : decode cX12_layFar 109 = .ok (.iinc 1 1, 3) := by decide +kernel
theorem dX12_layFar_112 : decode cX12_layFar 112 = .ok (.goto (-76), 3) := by decide +kernel
theorem dX12_layFar_115 : decode cX12_layFar 115 = .ok (.iconst 0, 1) := by decide +kernel
theorem dX12_layFar_116 : decode cX12_layFar 116 = .ok (.istore_n 1, 1) := by decide +kernel
theorem dX12_layFar_117 : decode cX12_layFar 117 = .ok (.iload_n 1, 1) := by decide +kernel
theorem dX12_layFar_118 : decode cX12_layFar 118 = .ok (.aload_n 0, 1) := by decide +kernel
theorem dX12_layFar_119 : decode cX12_layFar 119 = .ok (.getfield 395, 3) := by decide +kernel
theorem dX12_layFar_122 : decode cX12_layFar 122 = .ok (.if_icmp .ge 95, 3) := by decide +kernel
theorem dX12_layFar_125 : decode cX12_layFar 125 = .ok (.iconst 0, 1) := by decide +kernel
theorem dX12_layFar_126 : decode cX12_layFar 126 = .ok (.istore_n 2, 1) := by decide +kernel
theorem dX12_layFar_127 : decode cX12_layFar 127 = .ok (.iload_n 2, 1) := by decide +kernel
theorem dX12_layFar_128 : decode cX12_layFar 128 = .ok (.aload_n 0, 1) := by decide +kernel
theorem dX12_layFar_129 : decode cX12_layFar 129 = .ok (.getfield 395, 3) := by decide +kernel
theorem dX12_layFar_132 : decode cX12_layFar 132 = .ok (.if_icmp .ge 79, 3) := by decide +kernel
theorem dX12_layFar_135 : decode cX12_layFar 135 = .ok (.iconst 0, 1) := by decide +kernel
theorem dX12_layFar_136 : decode cX12_layFar 136 = .ok (.istore_n 3, 1) := by decide +kernel
theorem dX12_layFar_137 : decode cX12_layFar 137 = .ok (.iload_n 3, 1) := by decide +kernel
theorem dX12_layFar_138 : decode cX12_layFar 138 = .ok (.aload_n 0, 1) := by decide +kernel
theorem dX12_layFar_139 : decode cX12_layFar 139 = .ok (.getfield 395, 3) := by decide +kernel
theorem dX12_layFar_142 : decode cX12_layFar 142 = .ok (.if_icmp .ge 63, 3) := by decide +kernel
theorem dX12_layFar_145 : decode cX12_layFar 145 = .ok (.aload_n 0, 1) := by decide +kernel
theorem dX12_layFar_146 : decode cX12_layFar 146 = .ok (.getfield 105, 3) := by decide +kernel
theorem dX12_layFar_149 : decode cX12_layFar 149 = .ok (.bipush 7, 2) := by decide +kernel
theorem dX12_layFar_151 : decode cX12_layFar 151 = .ok (.iload_n 2, 1) := by decide +kernel
theorem dX12_layFar_152 : decode cX12_layFar 152 = .ok (.imul, 1) := by decide +kernel
theorem dX12_layFar_153 : decode cX12_layFar 153 = .ok (.iload_n 1, 1) := by decide +kernel
theorem dX12_layFar_154 : decode cX12_layFar 154 = .ok (.iadd, 1) := by decide +kernel
theorem dX12_layFar_155 : decode cX12_layFar 155 = .ok (.iaload, 1) := by decide +kernel
theorem dX12_layFar_156 : decode cX12_layFar 156 = .ok (.aload_n 0, 1) := by decide +kernel
theorem dX12_layFar_157 : decode cX12_layFar 157 = .ok (.getfield 105, 3) := by decide +kernel
theorem dX12_layFar_160 : decode cX12_layFar 160 = .ok (.bipush 7, 2) := by decide +kernel
theorem dX12_layFar_162 : decode cX12_layFar 162 = .ok (.iload_n 1, 1) := by decide +kernel
theorem dX12_layFar_163 : decode cX12_layFar 163 = .ok (.imul, 1) := by decide +kernel
theorem dX12_layFar_164 : decode cX12_layFar 164 = .ok (.iload_n 3, 1) := by decide +kernel
theorem dX12_layFar_165 : decode cX12_layFar 165 = .ok (.iadd, 1) := by decide +kernel
theorem dX12_layFar_166 : decode cX12_layFar 166 = .ok (.iaload, 1) := by decide +kernel
theorem dX12_layFar_167 : decode cX12_layFar 167 = .ok (.iadd, 1) := by decide +kernel
theorem dX12_layFar_168 : decode cX12_layFar 168 = .ok (.istore 4, 2) := by decide +kernel
theorem dX12_layFar_170 : decode cX12_layFar 170 = .ok (.iload 4, 2) := by decide +kernel
theorem dX12_layFar_172 : decode cX12_layFar 172 = .ok (.aload_n 0, 1) := by decide +kernel
theorem dX12_layFar_173 : decode cX12_layFar 173 = .ok (.getfield 105, 3) := by decide +kernel
theorem dX12_layFar_176 : decode cX12_layFar 176 = .ok (.bipush 7, 2) := by decide +kernel
theorem dX12_layFar_178 : decode cX12_layFar 178 = .ok (.iload_n 2, 1) := by decide +kernel
theorem dX12_layFar_179 : decode cX12_layFar 179 = .ok (.imul, 1) := by decide +kernel
theorem dX12_layFar_180 : decode cX12_layFar 180 = .ok (.iload_n 3, 1) := by decide +kernel
theorem dX12_layFar_181 : decode cX12_layFar 181 = .ok (.iadd, 1) := by decide +kernel
theorem dX12_layFar_182 : decode cX12_layFar 182 = .ok (.iaload, 1) := by decide +kernel
theorem dX12_layFar_183 : decode cX12_layFar 183 = .ok (.if_icmp .ge 16, 3) := by decide +kernel
theorem dX12_layFar_186 : decode cX12_layFar 186 = .ok (.aload_n 0, 1) := by decide +kernel
theorem dX12_layFar_187 : decode cX12_layFar 187 = .ok (.getfield 105, 3) := by decide +kernel
theorem dX12_layFar_190 : decode cX12_layFar 190 = .ok (.bipush 7, 2) := by decide +kernel
theorem dX12_layFar_192 : decode cX12_layFar 192 = .ok (.iload_n 2, 1) := by decide +kernel
theorem dX12_layFar_193 : decode cX12_layFar 193 = .ok (.imul, 1) := by decide +kernel
theorem dX12_layFar_194 : decode cX12_layFar 194 = .ok (.iload_n 3, 1) := by decide +kernel
theorem dX12_layFar_195 : decode cX12_layFar 195 = .ok (.iadd, 1) := by decide +kernel
theorem dX12_layFar_196 : decode cX12_layFar 196 = .ok (.iload 4, 2) := by decide +kernel
theorem dX12_layFar_198 : decode cX12_layFar 198 = .ok (.iastore, 1) := by decide +kernel
theorem dX12_layFar_199 : decode cX12_layFar 199 = .ok (.iinc 3 1, 3) := by decide +kernel
theorem dX12_layFar_202 : decode cX12_layFar 202 = .ok (.goto (-65), 3) := by decide +kernel
theorem dX12_layFar_205 : decode cX12_layFar 205 = .ok (.iinc 2 1, 3) := by decide +kernel
theorem dX12_layFar_208 : decode cX12_layFar 208 = .ok (.goto (-81), 3) := by decide +kernel
theorem dX12_layFar_211 : decode cX12_layFar 211 = .ok (.iinc 1 1, 3) := by decide +kernel
theorem dX12_layFar_214 : decode cX12_layFar 214 = .ok (.goto (-97), 3) := by decide +kernel
theorem dX12_layFar_217 : decode cX12_layFar 217 = .ok (.return_, 1) := by decide +kernel
theorem dX12_load_0 : decode cX12_load 0 = .ok (.iconst 0, 1) := by decide +kernel
theorem dX12_load_1 : decode cX12_load 1 = .ok (.istore_n 1, 1) := by decide +kernel
theorem dX12_load_2 : decode cX12_load 2 = .ok (.iload_n 1, 1) := by decide +kernel
theorem dX12_load_3 : decode cX12_load 3 = .ok (.bipush 91, 2) := by decide +kernel
theorem dX12_load_5 : decode cX12_load 5 = .ok (.if_icmp .ge 21, 3) := by decide +kernel
theorem dX12_load_8 : decode cX12_load 8 = .ok (.aload_n 0, 1) := by decide +kernel
theorem dX12_load_9 : decode cX12_load 9 = .ok (.getfield 102, 3) := by decide +kernel
theorem dX12_load_12 : decode cX12_load 12 = .ok (.iload_n 1, 1) := by decide +kernel
theorem dX12_load_13 : decode cX12_load 13 = .ok (.aload_n 0, 1) := by decide +kernel
theorem dX12_load_14 : decode cX12_load 14 = .ok (.getfield 99, 3) := by decide +kernel
theorem dX12_load_17 : decode cX12_load 17 = .ok (.iload_n 1, 1) := by decide +kernel
theorem dX12_load_18 : decode cX12_load 18 = .ok (.iaload, 1) := by decide +kernel
theorem dX12_load_19 : decode cX12_load 19 = .ok (.iastore, 1) := by decide +kernel
theorem dX12_load_20 : decode cX12_load 20 = .ok (.iinc 1 1, 3) := by decide +kernel
theorem dX12_load_23 : decode cX12_load 23 = .ok (.goto (-21), 3) := by decide +kernel
theorem dX12_load_26 : decode cX12_load 26 = .ok (.aload_n 0, 1) := by decide +kernel
theorem dX12_load_27 : decode cX12_load 27 = .ok (.iconst 0, 1) := by decide +kernel
theorem dX12_load_28 : decode cX12_load 28 = .ok (.putfield 433, 3) := by decide +kernel
theorem dX12_load_31 : decode cX12_load 31 = .ok (.aload_n 0, 1) := by decide +kernel
theorem dX12_load_32 : decode cX12_load 32 = .ok (.invokevirtual 436, 3) := by decide +kernel
theorem dX12_load_35 : decode cX12_load 35 = .ok (.return_, 1) := by decide +kernel
theorem dX12_farOf_0 : decode cX12_farOf 0 = .ok (.aload_n 0, 1) := by decide +kernel
theorem dX12_farOf_1 : decode cX12_farOf 1 = .ok (.getfield 105, 3) := by decide +kernel
theorem dX12_farOf_4 : decode cX12_farOf 4 = .ok (.bipush 7, 2) := by decide +kernel
theorem dX12_farOf_6 : decode cX12_farOf 6 = .ok (.iload_n 1, 1) := by decide +kernel
theorem dX12_farOf_7 : decode cX12_farOf 7 = .ok (.imul, 1) := by decide +kernel
theorem dX12_farOf_8 : decode cX12_farOf 8 = .ok (.iload_n 2, 1) := by decide +kernel
theorem dX12_farOf_9 : decode cX12_farOf 9 = .ok (.iadd, 1) := by decide +kernel
theorem dX12_farOf_10 : decode cX12_farOf 10 = .ok (.iaload, 1) := by decide +kernel
theorem dX12_farOf_11 : decode cX12_farOf 11 = .ok (.ireturn, 1) := by decide +kernel
theorem dX12_openWays_0 : decode cX12_openWays 0 = .ok (.iconst 0, 1) := by decide +kernel
theorem dX12_openWays_1 : decode cX12_openWays 1 = .ok (.istore_n 2, 1) := by decide +kernel
theorem dX12_openWays_2 : decode cX12_openWays 2 = .ok (.iconst 0, 1) := by decide +kernel
theorem dX12_openWays_3 : decode cX12_openWays 3 = .ok (.istore_n 3, 1) := by decide +kernel
theorem dX12_openWays_4 : decode cX12_openWays 4 = .ok (.iload_n 3, 1) := by decide +kernel
theorem dX12_openWays_5 : decode cX12_openWays 5 = .ok (.aload_n 0, 1) := by decide +kernel
theorem dX12_openWays_6 : decode cX12_openWays 6 = .ok (.getfield 398, 3) := by decide +kernel
theorem dX12_openWays_9 : decode cX12_openWays 9 = .ok (.if_icmp .ge 48, 3) := by decide +kernel
theorem dX12_openWays_12 : decode cX12_openWays 12 = .ok (.iload_n 2, 1) := by decide +kernel
theorem dX12_openWays_13 : decode cX12_openWays 13 = .ok (.aload_n 0, 1) := by decide +kernel
theorem dX12_openWays_14 : decode cX12_openWays 14 = .ok (.iload_n 3, 1) := by decide +kernel
theorem dX12_openWays_15 : decode cX12_openWays 15 = .ok (.invokevirtual 430, 3) := by decide +kernel
theorem dX12_openWays_18 : decode cX12_openWays 18 = .ok (.ifCond .ne 27, 3) := by decide +kernel
theorem dX12_openWays_21 : decode cX12_openWays 21 = .ok (.aload_n 0, 1) := by decide +kernel
theorem dX12_openWays_22 : decode cX12_openWays 22 = .ok (.getfield 51, 3) := by decide +kernel
theorem dX12_openWays_25 : decode cX12_openWays 25 = .ok (.iload_n 3, 1) := by decide +kernel
theorem dX12_openWays_26 : decode cX12_openWays 26 = .ok (.iaload, 1) := by decide +kernel
theorem dX12_openWays_27 : decode cX12_openWays 27 = .ok (.iload_n 1, 1) := by decide +kernel
theorem dX12_openWays_28 : decode cX12_openWays 28 = .ok (.if_icmp .eq 13, 3) := by decide +kernel
theorem dX12_openWays_31 : decode cX12_openWays 31 = .ok (.aload_n 0, 1) := by decide +kernel
theorem dX12_openWays_32 : decode cX12_openWays 32 = .ok (.getfield 54, 3) := by decide +kernel
theorem dX12_openWays_35 : decode cX12_openWays 35 = .ok (.iload_n 3, 1) := by decide +kernel
theorem dX12_openWays_36 : decode cX12_openWays 36 = .ok (.iaload, 1) := by decide +kernel
theorem dX12_openWays_37 : decode cX12_openWays 37 = .ok (.iload_n 1, 1) := by decide +kernel
theorem dX12_openWays_38 : decode cX12_openWays 38 = .ok (.if_icmp .ne 7, 3) := by decide +kernel
theorem dX12_openWays_41 : decode cX12_openWays 41 = .ok (.iconst 1, 1) := by decide +kernel
theorem dX12_openWays_42 : decode cX12_openWays 42 = .ok (.goto 4, 3) := by decide +kernel
theorem dX12_openWays_45 : decode cX12_openWays 45 = .ok (.iconst 0, 1) := by decide +kernel
theorem dX12_openWays_46 : decode cX12_openWays 46 = .ok (.invokestatic 317, 3) := by decide +kernel
theorem dX12_openWays_49 : decode cX12_openWays 49 = .ok (.iadd, 1) := by decide +kernel
theorem dX12_openWays_50 : decode cX12_openWays 50 = .ok (.istore_n 2, 1) := by decide +kernel
theorem dX12_openWays_51 : decode cX12_openWays 51 = .ok (.iinc 3 1, 3) := by decide +kernel
theorem dX12_openWays_54 : decode cX12_openWays 54 = .ok (.goto (-50), 3) := by decide +kernel
theorem dX12_openWays_57 : decode cX12_openWays 57 = .ok (.iload_n 2, 1) := by decide +kernel
theorem dX12_openWays_58 : decode cX12_openWays 58 = .ok (.ireturn, 1) := by decide +kernel
theorem dX12_daysBetween_0 : decode cX12_daysBetween 0 = .ok (.iconst (-1), 1) := by decide +kernel
theorem dX12_daysBetween_1 : decode cX12_daysBetween 1 = .ok (.istore_n 3, 1) := by decide +kernel
theorem dX12_daysBetween_2 : decode cX12_daysBetween 2 = .ok (.iconst 0, 1) := by decide +kernel
theorem dX12_daysBetween_3 : decode cX12_daysBetween 3 = .ok (.istore 4, 2) := by decide +kernel
theorem dX12_daysBetween_5 : decode cX12_daysBetween 5 = .ok (.iload 4, 2) := by decide +kernel
theorem dX12_daysBetween_7 : decode cX12_daysBetween 7 = .ok (.aload_n 0, 1) := by decide +kernel
theorem dX12_daysBetween_8 : decode cX12_daysBetween 8 = .ok (.getfield 398, 3) := by decide +kernel
theorem dX12_daysBetween_11 : decode cX12_daysBetween 11 = .ok (.if_icmp .ge 70, 3) := by decide +kernel
theorem dX12_daysBetween_14 : decode cX12_daysBetween 14 = .ok (.aload_n 0, 1) := by decide +kernel
theorem dX12_daysBetween_15 : decode cX12_daysBetween 15 = .ok (.iload 4, 2) := by decide +kernel
theorem dX12_daysBetween_17 : decode cX12_daysBetween 17 = .ok (.invokevirtual 430, 3) := by decide +kernel
theorem dX12_daysBetween_20 : decode cX12_daysBetween 20 = .ok (.ifCond .ne 55, 3) := by decide +kernel
theorem dX12_daysBetween_23 : decode cX12_daysBetween 23 = .ok (.aload_n 0, 1) := by decide +kernel
theorem dX12_daysBetween_24 : decode cX12_daysBetween 24 = .ok (.getfield 51, 3) := by decide +kernel
theorem dX12_daysBetween_27 : decode cX12_daysBetween 27 = .ok (.iload 4, 2) := by decide +kernel
theorem dX12_daysBetween_29 : decode cX12_daysBetween 29 = .ok (.iaload, 1) := by decide +kernel
theorem dX12_daysBetween_30 : decode cX12_daysBetween 30 = .ok (.iload_n 1, 1) := by decide +kernel
theorem dX12_daysBetween_31 : decode cX12_daysBetween 31 = .ok (.if_icmp .ne 14, 3) := by decide +kernel
theorem dX12_daysBetween_34 : decode cX12_daysBetween 34 = .ok (.aload_n 0, 1) := by decide +kernel
theorem dX12_daysBetween_35 : decode cX12_daysBetween 35 = .ok (.getfield 54, 3) := by decide +kernel
theorem dX12_daysBetween_38 : decode cX12_daysBetween 38 = .ok (.iload 4, 2) := by decide +kernel
theorem dX12_daysBetween_40 : decode cX12_daysBetween 40 = .ok (.iaload, 1) := by decide +kernel
theorem dX12_daysBetween_41 : decode cX12_daysBetween 41 = .ok (.iload_n 2, 1) := by decide +kernel
theorem dX12_daysBetween_42 : decode cX12_daysBetween 42 = .ok (.if_icmp .eq 25, 3) := by decide +kernel
theorem dX12_daysBetween_45 : decode cX12_daysBetween 45 = .ok (.aload_n 0, 1) := by decide +kernel
theorem dX12_daysBetween_46 : decode cX12_daysBetween 46 = .ok (.getfield 51, 3) := by decide +kernel
theorem dX12_daysBetween_49 : decode cX12_daysBetween 49 = .ok (.iload 4, 2) := by decide +kernel
theorem dX12_daysBetween_51 : decode cX12_daysBetween 51 = .ok (.iaload, 1) := by decide +kernel
theorem dX12_daysBetween_52 : decode cX12_daysBetween 52 = .ok (.iload_n 2, 1) := by decide +kernel
theorem dX12_daysBetween_53 : decode cX12_daysBetween 53 = .ok (.if_icmp .ne 22, 3) := by decide +kernel
theorem dX12_daysBetween_56 : decode cX12_daysBetween 56 = .ok (.aload_n 0, 1) := by decide +kernel
theorem dX12_daysBetween_57 : decode cX12_daysBetween 57 = .ok (.getfield 54, 3) := by decide +kernel
theorem dX12_daysBetween_60 : decode cX12_daysBetween 60 = .ok (.iload 4, 2) := by decide +kernel
theorem dX12_daysBetween_62 : decode cX12_daysBetween 62 = .ok (.iaload, 1) := by decide +kernel
theorem dX12_daysBetween_63 : decode cX12_daysBetween 63 = .ok (.iload_n 1, 1) := by decide +kernel
theorem dX12_daysBetween_64 : decode cX12_daysBetween 64 = .ok (.if_icmp .ne 11, 3) := by decide +kernel
theorem dX12_daysBetween_67 : decode cX12_daysBetween 67 = .ok (.aload_n 0, 1) := by decide +kernel
theorem dX12_daysBetween_68 : decode cX12_daysBetween 68 = .ok (.getfield 57, 3) := by decide +kernel
theorem dX12_daysBetween_71 : decode cX12_daysBetween 71 = .ok (.iload 4, 2) := by decide +kernel
theorem dX12_daysBetween_73 : decode cX12_daysBetween 73 = .ok (.iaload, 1) := by decide +kernel
theorem dX12_daysBetween_74 : decode cX12_daysBetween 74 = .ok (.istore_n 3, 1) := by decide +kernel
theorem dX12_daysBetween_75 : decode cX12_daysBetween 75 = .ok (.iinc 4 1, 3) := by decide +kernel
theorem dX12_daysBetween_78 : decode cX12_daysBetween 78 = .ok (.goto (-73), 3) := by decide +kernel
theorem dX12_daysBetween_81 : decode cX12_daysBetween 81 = .ok (.iload_n 3, 1) := by decide +kernel
theorem dX12_daysBetween_82 : decode cX12_daysBetween 82 = .ok (.ireturn, 1) := by decide +kernel
theorem dX12_nextFrom_0 : decode cX12_nextFrom 0 = .ok (.iload_n 1, 1) := by decide +kernel
theorem dX12_nextFrom_1 : decode cX12_nextFrom 1 = .ok (.iload_n 2, 1) := by decide +kernel
theorem dX12_nextFrom_2 : decode cX12_nextFrom 2 = .ok (.if_icmp .eq 15, 3) := by decide +kernel
theorem dX12_nextFrom_5 : decode cX12_nextFrom 5 = .ok (.aload_n 0, 1) := by decide +kernel
theorem dX12_nextFrom_6 : decode cX12_nextFrom 6 = .ok (.iload_n 1, 1) := by decide +kernel
theorem dX12_nextFrom_7 : decode cX12_nextFrom 7 = .ok (.iload_n 2, 1) := by decide +kernel
theorem dX12_nextFrom_8 : decode cX12_nextFrom 8 = .ok (.invokevirtual 439, 3) := by decide +kernel
theorem dX12_nextFrom_11 : decode cX12_nextFrom 11 = .ok (.sipush 1000, 3) := by decide +kernel
theorem dX12_nextFrom_14 : decode cX12_nextFrom 14 = .ok (.if_icmp .lt 5, 3) := by decide +kernel
theorem dX12_nextFrom_17 : decode cX12_nextFrom 17 = .ok (.iconst (-1), 1) := by decide +kernel
theorem dX12_nextFrom_18 : decode cX12_nextFrom 18 = .ok (.ireturn, 1) := by decide +kernel
theorem dX12_nextFrom_19 : decode cX12_nextFrom 19 = .ok (.iconst (-1), 1) := by decide +kernel
theorem dX12_nextFrom_20 : decode cX12_nextFrom 20 = .ok (.istore_n 3, 1) := by decide +kernel
theorem dX12_nextFrom_21 : decode cX12_nextFrom 21 = .ok (.sipush 1000, 3) := by decide +kernel
theorem dX12_nextFrom_24 : decode cX12_nextFrom 24 = .ok (.istore 4, 2) := by decide +kernel
theorem dX12_nextFrom_26 : decode cX12_nextFrom 26 = .ok (.iconst 0, 1) := by decide +kernel
theorem dX12_nextFrom_27 : decode cX12_nextFrom 27 = .ok (.istore 5, 2) := by decide +kernel
theorem dX12_nextFrom_29 : decode cX12_nextFrom 29 = .ok (.iload 5, 2) := by decide +kernel
theorem dX12_nextFrom_31 : decode cX12_nextFrom 31 = .ok (.aload_n 0, 1) := by decide +kernel
theorem dX12_nextFrom_32 : decode cX12_nextFrom 32 = .ok (.getfield 395, 3) := by decide +kernel
theorem dX12_nextFrom_35 : decode cX12_nextFrom 35 = .ok (.if_icmp .ge 56, 3) := by decide +kernel
theorem dX12_nextFrom_38 : decode cX12_nextFrom 38 = .ok (.aload_n 0, 1) := by decide +kernel
theorem dX12_nextFrom_39 : decode cX12_nextFrom 39 = .ok (.iload_n 1, 1) := by decide +kernel
theorem dX12_nextFrom_40 : decode cX12_nextFrom 40 = .ok (.iload 5, 2) := by decide +kernel
theorem dX12_nextFrom_42 : decode cX12_nextFrom 42 = .ok (.invokevirtual 442, 3) := by decide +kernel
theorem dX12_nextFrom_45 : decode cX12_nextFrom 45 = .ok (.istore 6, 2) := by decide +kernel
theorem dX12_nextFrom_47 : decode cX12_nextFrom 47 = .ok (.iload 6, 2) := by decide +kernel
theorem dX12_nextFrom_49 : decode cX12_nextFrom 49 = .ok (.ifCond .lt 36, 3) := by decide +kernel
theorem dX12_nextFrom_52 : decode cX12_nextFrom 52 = .ok (.iload 6, 2) := by decide +kernel
theorem dX12_nextFrom_54 : decode cX12_nextFrom 54 = .ok (.aload_n 0, 1) := by decide +kernel
theorem dX12_nextFrom_55 : decode cX12_nextFrom 55 = .ok (.iload 5, 2) := by decide +kernel
theorem dX12_nextFrom_57 : decode cX12_nextFrom 57 = .ok (.iload_n 2, 1) := by decide +kernel
theorem dX12_nextFrom_58 : decode cX12_nextFrom 58 = .ok (.invokevirtual 439, 3) := by decide +kernel
theorem dX12_nextFrom_61 : decode cX12_nextFrom 61 = .ok (.iadd, 1) := by decide +kernel
theorem dX12_nextFrom_62 : decode cX12_nextFrom 62 = .ok (.iload 4, 2) := by decide +kernel
theorem dX12_nextFrom_64 : decode cX12_nextFrom 64 = .ok (.if_icmp .lt 6, 3) := by decide +kernel
theorem dX12_nextFrom_67 : decode cX12_nextFrom 67 = .ok (.goto 18, 3) := by decide +kernel
theorem dX12_nextFrom_70 : decode cX12_nextFrom 70 = .ok (.iload 5, 2) := by decide +kernel
theorem dX12_nextFrom_72 : decode cX12_nextFrom 72 = .ok (.istore_n 3, 1) := by decide +kernel
theorem dX12_nextFrom_73 : decode cX12_nextFrom 73 = .ok (.iload 6, 2) := by decide +kernel
theorem dX12_nextFrom_75 : decode cX12_nextFrom 75 = .ok (.aload_n 0, 1) := by decide +kernel
theorem dX12_nextFrom_76 : decode cX12_nextFrom 76 = .ok (.iload 5, 2) := by decide +kernel
theorem dX12_nextFrom_78 : decode cX12_nextFrom 78 = .ok (.iload_n 2, 1) := by decide +kernel
theorem dX12_nextFrom_79 : decode cX12_nextFrom 79 = .ok (.invokevirtual 439, 3) := by decide +kernel
theorem dX12_nextFrom_82 : decode cX12_nextFrom 82 = .ok (.iadd, 1) := by decide +kernel
theorem dX12_nextFrom_83 : decode cX12_nextFrom 83 = .ok (.istore 4, 2) := by decide +kernel
theorem dX12_nextFrom_85 : decode cX12_nextFrom 85 = .ok (.iinc 5 1, 3) := by decide +kernel
theorem dX12_nextFrom_88 : decode cX12_nextFrom 88 = .ok (.goto (-59), 3) := by decide +kernel
theorem dX12_nextFrom_91 : decode cX12_nextFrom 91 = .ok (.iload_n 3, 1) := by decide +kernel
theorem dX12_nextFrom_92 : decode cX12_nextFrom 92 = .ok (.ireturn, 1) := by decide +kernel
theorem dX12_restFrom_0 : decode cX12_restFrom 0 = .ok (.iconst 0, 1) := by decide +kernel
theorem dX12_restFrom_1 : decode cX12_restFrom 1 = .ok (.istore_n 3, 1) := by decide +kernel
theorem dX12_restFrom_2 : decode cX12_restFrom 2 = .ok (.iload_n 1, 1) := by decide +kernel
theorem dX12_restFrom_3 : decode cX12_restFrom 3 = .ok (.istore 4, 2) := by decide +kernel
theorem dX12_restFrom_5 : decode cX12_restFrom 5 = .ok (.iload 4, 2) := by decide +kernel
theorem dX12_restFrom_7 : decode cX12_restFrom 7 = .ok (.ifCond .lt 22, 3) := by decide +kernel
theorem dX12_restFrom_10 : decode cX12_restFrom 10 = .ok (.iload_n 3, 1) := by decide +kernel
theorem dX12_restFrom_11 : decode cX12_restFrom 11 = .ok (.iconst 1, 1) := by decide +kernel
theorem dX12_restFrom_12 : decode cX12_restFrom 12 = .ok (.iload 4, 2) := by decide +kernel
theorem dX12_restFrom_14 : decode cX12_restFrom 14 = .ok (.ishl, 1) := by decide +kernel
theorem dX12_restFrom_15 : decode cX12_restFrom 15 = .ok (.ior, 1) := by decide +kernel
theorem dX12_restFrom_16 : decode cX12_restFrom 16 = .ok (.istore_n 3, 1) := by decide +kernel
theorem dX12_restFrom_17 : decode cX12_restFrom 17 = .ok (.aload_n 0, 1) := by decide +kernel
theorem dX12_restFrom_18 : decode cX12_restFrom 18 = .ok (.iload 4, 2) := by decide +kernel
theorem dX12_restFrom_20 : decode cX12_restFrom 20 = .ok (.iload_n 2, 1) := by decide +kernel
theorem dX12_restFrom_21 : decode cX12_restFrom 21 = .ok (.invokevirtual 445, 3) := by decide +kernel
theorem dX12_restFrom_24 : decode cX12_restFrom 24 = .ok (.istore 4, 2) := by decide +kernel
theorem dX12_restFrom_26 : decode cX12_restFrom 26 = .ok (.goto (-21), 3) := by decide +kernel
theorem dX12_restFrom_29 : decode cX12_restFrom 29 = .ok (.iload_n 3, 1) := by decide +kernel
theorem dX12_restFrom_30 : decode cX12_restFrom 30 = .ok (.ireturn, 1) := by decide +kernel
theorem dX12_restOf_0 : decode cX12_restOf 0 = .ok (.aload_n 0, 1) := by decide +kernel
theorem dX12_restOf_1 : decode cX12_restOf 1 = .ok (.aload_n 0, 1) := by decide +kernel
theorem dX12_restOf_2 : decode cX12_restOf 2 = .ok (.getfield 102, 3) := by decide +kernel
theorem dX12_restOf_5 : decode cX12_restOf 5 = .ok (.bipush 6, 2) := by decide +kernel
theorem dX12_restOf_7 : decode cX12_restOf 7 = .ok (.iload_n 1, 1) := by decide +kernel
theorem dX12_restOf_8 : decode cX12_restOf 8 = .ok (.iadd, 1) := by decide +kernel
theorem dX12_restOf_9 : decode cX12_restOf 9 = .ok (.iaload, 1) := by decide +kernel
theorem dX12_restOf_10 : decode cX12_restOf 10 = .ok (.aload_n 0, 1) := by decide +kernel
theorem dX12_restOf_11 : decode cX12_restOf 11 = .ok (.getfield 75, 3) := by decide +kernel
theorem dX12_restOf_14 : decode cX12_restOf 14 = .ok (.iload_n 1, 1) := by decide +kernel
theorem dX12_restOf_15 : decode cX12_restOf 15 = .ok (.iaload, 1) := by decide +kernel
theorem dX12_restOf_16 : decode cX12_restOf 16 = .ok (.invokevirtual 448, 3) := by decide +kernel
theorem dX12_restOf_19 : decode cX12_restOf 19 = .ok (.ireturn, 1) := by decide +kernel
theorem dX12_comeTo_0 : decode cX12_comeTo 0 = .ok (.aload_n 0, 1) := by decide +kernel
theorem dX12_comeTo_1 : decode cX12_comeTo 1 = .ok (.getfield 102, 3) := by decide +kernel
theorem dX12_comeTo_4 : decode cX12_comeTo 4 = .ok (.bipush 90, 2) := by decide +kernel
theorem dX12_comeTo_6 : decode cX12_comeTo 6 = .ok (.iaload, 1) := by decide +kernel
theorem dX12_comeTo_7 : decode cX12_comeTo 7 = .ok (.istore_n 3, 1) := by decide +kernel
theorem dX12_comeTo_8 : decode cX12_comeTo 8 = .ok (.aload_n 0, 1) := by decide +kernel
theorem dX12_comeTo_9 : decode cX12_comeTo 9 = .ok (.getfield 102, 3) := by decide +kernel
theorem dX12_comeTo_12 : decode cX12_comeTo 12 = .ok (.iload_n 1, 1) := by decide +kernel
theorem dX12_comeTo_13 : decode cX12_comeTo 13 = .ok (.iconst 1, 1) := by decide +kernel
theorem dX12_comeTo_14 : decode cX12_comeTo 14 = .ok (.iastore, 1) := by decide +kernel
theorem dX12_comeTo_15 : decode cX12_comeTo 15 = .ok (.aload_n 0, 1) := by decide +kernel
theorem dX12_comeTo_16 : decode cX12_comeTo 16 = .ok (.getfield 102, 3) := by decide +kernel
theorem dX12_comeTo_19 : decode cX12_comeTo 19 = .ok (.bipush 6, 2) := by decide +kernel
theorem dX12_comeTo_21 : decode cX12_comeTo 21 = .ok (.iload_n 1, 1) := by decide +kernel
theorem dX12_comeTo_22 : decode cX12_comeTo 22 = .ok (.iadd, 1) := by decide +kernel
theorem dX12_comeTo_23 : decode cX12_comeTo 23 = .ok (.iload_n 2, 1) := by decide +kernel
theorem dX12_comeTo_24 : decode cX12_comeTo 24 = .ok (.iastore, 1) := by decide +kernel
theorem dX12_comeTo_25 : decode cX12_comeTo 25 = .ok (.aload_n 0, 1) := by decide +kernel
theorem dX12_comeTo_26 : decode cX12_comeTo 26 = .ok (.getfield 39, 3) := by decide +kernel
theorem dX12_comeTo_29 : decode cX12_comeTo 29 = .ok (.iconst 0, 1) := by decide +kernel
theorem dX12_comeTo_30 : decode cX12_comeTo 30 = .ok (.iload_n 3, 1) := by decide +kernel
theorem dX12_comeTo_31 : decode cX12_comeTo 31 = .ok (.iastore, 1) := by decide +kernel
theorem dX12_comeTo_32 : decode cX12_comeTo 32 = .ok (.aload_n 0, 1) := by decide +kernel
theorem dX12_comeTo_33 : decode cX12_comeTo 33 = .ok (.getfield 39, 3) := by decide +kernel
theorem dX12_comeTo_36 : decode cX12_comeTo 36 = .ok (.iconst 1, 1) := by decide +kernel
theorem dX12_comeTo_37 : decode cX12_comeTo 37 = .ok (.aload_n 0, 1) := by decide +kernel
theorem dX12_comeTo_38 : decode cX12_comeTo 38 = .ok (.getfield 81, 3) := by decide +kernel
theorem dX12_comeTo_41 : decode cX12_comeTo 41 = .ok (.iload_n 1, 1) := by decide +kernel
theorem dX12_comeTo_42 : decode cX12_comeTo 42 = .ok (.iaload, 1) := by decide +kernel
theorem dX12_comeTo_43 : decode cX12_comeTo 43 = .ok (.iastore, 1) := by decide +kernel
theorem dX12_comeTo_44 : decode cX12_comeTo 44 = .ok (.aload_n 0, 1) := by decide +kernel
theorem dX12_comeTo_45 : decode cX12_comeTo 45 = .ok (.getfield 39, 3) := by decide +kernel
theorem dX12_comeTo_48 : decode cX12_comeTo 48 = .ok (.iconst 2, 1) := by decide +kernel
theorem dX12_comeTo_49 : decode cX12_comeTo 49 = .ok (.aload_n 0, 1) := by decide +kernel
theorem dX12_comeTo_50 : decode cX12_comeTo 50 = .ok (.iload_n 2, 1) := by decide +kernel
theorem dX12_comeTo_51 : decode cX12_comeTo 51 = .ok (.invokevirtual 451, 3) := by decide +kernel
theorem dX12_comeTo_54 : decode cX12_comeTo 54 = .ok (.iastore, 1) := by decide +kernel
theorem dX12_comeTo_55 : decode cX12_comeTo 55 = .ok (.aload_n 0, 1) := by decide +kernel
theorem dX12_comeTo_56 : decode cX12_comeTo 56 = .ok (.getfield 39, 3) := by decide +kernel
theorem dX12_comeTo_59 : decode cX12_comeTo 59 = .ok (.iconst 3, 1) := by decide +kernel
theorem dX12_comeTo_60 : decode cX12_comeTo 60 = .ok (.aload_n 0, 1) := by decide +kernel
theorem dX12_comeTo_61 : decode cX12_comeTo 61 = .ok (.iload_n 2, 1) := by decide +kernel
theorem dX12_comeTo_62 : decode cX12_comeTo 62 = .ok (.aload_n 0, 1) := by decide +kernel
theorem dX12_comeTo_63 : decode cX12_comeTo 63 = .ok (.getfield 75, 3) := by decide +kernel
theorem dX12_comeTo_66 : decode cX12_comeTo 66 = .ok (.iload_n 1, 1) := by decide +kernel
theorem dX12_comeTo_67 : decode cX12_comeTo 67 = .ok (.iaload, 1) := by decide +kernel
theorem dX12_comeTo_68 : decode cX12_comeTo 68 = .ok (.invokevirtual 439, 3) := by decide +kernel
theorem dX12_comeTo_71 : decode cX12_comeTo 71 = .ok (.iastore, 1) := by decide +kernel
theorem dX12_comeTo_72 : decode cX12_comeTo 72 = .ok (.aload_n 0, 1) := by decide +kernel
theorem dX12_comeTo_73 : decode cX12_comeTo 73 = .ok (.getfield 102, 3) := by decide +kernel
theorem dX12_comeTo_76 : decode cX12_comeTo 76 = .ok (.bipush 12, 2) := by decide +kernel
theorem dX12_comeTo_78 : decode cX12_comeTo 78 = .ok (.iload_n 1, 1) := by decide +kernel
theorem dX12_comeTo_79 : decode cX12_comeTo 79 = .ok (.iadd, 1) := by decide +kernel
theorem dX12_comeTo_80 : decode cX12_comeTo 80 = .ok (.iload_n 3, 1) := by decide +kernel
theorem dX12_comeTo_81 : decode cX12_comeTo 81 = .ok (.aload_n 0, 1) := by decide +kernel
theorem dX12_comeTo_82 : decode cX12_comeTo 82 = .ok (.invokevirtual 454, 3) := by decide +kernel
theorem dX12_comeTo_85 : decode cX12_comeTo 85 = .ok (.iadd, 1) := by decide +kernel
theorem dX12_comeTo_86 : decode cX12_comeTo 86 = .ok (.iastore, 1) := by decide +kernel
theorem dX12_comeTo_87 : decode cX12_comeTo 87 = .ok (.iload_n 2, 1) := by decide +kernel
theorem dX12_comeTo_88 : decode cX12_comeTo 88 = .ok (.aload_n 0, 1) := by decide +kernel
theorem dX12_comeTo_89 : decode cX12_comeTo 89 = .ok (.getfield 75, 3) := by decide +kernel
theorem dX12_comeTo_92 : decode cX12_comeTo 92 = .ok (.iload_n 1, 1) := by decide +kernel
theorem dX12_comeTo_93 : decode cX12_comeTo 93 = .ok (.iaload, 1) := by decide +kernel
theorem dX12_comeTo_94 : decode cX12_comeTo 94 = .ok (.if_icmp .eq 4, 3) := by decide +kernel
theorem dX12_comeTo_97 : decode cX12_comeTo 97 = .ok (.return_, 1) := by decide +kernel
theorem dX12_comeTo_98 : decode cX12_comeTo 98 = .ok (.aload_n 0, 1) := by decide +kernel
theorem dX12_comeTo_99 : decode cX12_comeTo 99 = .ok (.getfield 102, 3) := by decide +kernel
theorem dX12_comeTo_102 : decode cX12_comeTo 102 = .ok (.iload_n 1, 1) := by decide +kernel
theorem dX12_comeTo_103 : decode cX12_comeTo 103 = .ok (.iconst 3, 1) := by decide +kernel
theorem dX12_comeTo_104 : decode cX12_comeTo 104 = .ok (.iastore, 1) := by decide +kernel
theorem dX12_comeTo_105 : decode cX12_comeTo 105 = .ok (.aload_n 0, 1) := by decide +kernel
theorem dX12_comeTo_106 : decode cX12_comeTo 106 = .ok (.getfield 102, 3) := by decide +kernel
theorem dX12_comeTo_109 : decode cX12_comeTo 109 = .ok (.bipush 12, 2) := by decide +kernel
theorem dX12_comeTo_111 : decode cX12_comeTo 111 = .ok (.iload_n 1, 1) := by decide +kernel
theorem dX12_comeTo_112 : decode cX12_comeTo 112 = .ok (.iadd, 1) := by decide +kernel
theorem dX12_comeTo_113 : decode cX12_comeTo 113 = .ok (.iconst (-1), 1) := by decide +kernel
theorem dX12_comeTo_114 : decode cX12_comeTo 114 = .ok (.iastore, 1) := by decide +kernel
theorem dX12_comeTo_115 : decode cX12_comeTo 115 = .ok (.iconst 0, 1) := by decide +kernel
theorem dX12_comeTo_116 : decode cX12_comeTo 116 = .ok (.istore 4, 2) := by decide +kernel
theorem dX12_comeTo_118 : decode cX12_comeTo 118 = .ok (.iload 4, 2) := by decide +kernel
theorem dX12_comeTo_120 : decode cX12_comeTo 120 = .ok (.aload_n 0, 1) := by decide +kernel
theorem dX12_comeTo_121 : decode cX12_comeTo 121 = .ok (.getfield 102, 3) := by decide +kernel
theorem dX12_comeTo_124 : decode cX12_comeTo 124 = .ok (.bipush 88, 2) := by decide +kernel
theorem dX12_comeTo_126 : decode cX12_comeTo 126 = .ok (.iaload, 1) := by decide +kernel
theorem dX12_comeTo_127 : decode cX12_comeTo 127 = .ok (.if_icmp .ge 48, 3) := by decide +kernel
theorem dX12_comeTo_130 : decode cX12_comeTo 130 = .ok (.aload_n 0, 1) := by decide +kernel
theorem dX12_comeTo_131 : decode cX12_comeTo 131 = .ok (.getfield 102, 3) := by decide +kernel
theorem dX12_comeTo_134 : decode cX12_comeTo 134 = .ok (.bipush 28, 2) := by decide +kernel
theorem dX12_comeTo_136 : decode cX12_comeTo 136 = .ok (.iload 4, 2) := by decide +kernel
theorem dX12_comeTo_138 : decode cX12_comeTo 138 = .ok (.iadd, 1) := by decide +kernel
theorem dX12_comeTo_139 : decode cX12_comeTo 139 = .ok (.iaload, 1) := by decide +kernel
theorem dX12_comeTo_140 : decode cX12_comeTo 140 = .ok (.iload_n 1, 1) := by decide +kernel
theorem dX12_comeTo_141 : decode cX12_comeTo 141 = .ok (.if_icmp .eq 6, 3) := by decide +kernel
theorem dX12_comeTo_144 : decode cX12_comeTo 144 = .ok (.goto 25, 3) := by decide +kernel
theorem dX12_comeTo_147 : decode cX12_comeTo 147 = .ok (.aload_n 0, 1) := by decide +kernel
theorem dX12_comeTo_148 : decode cX12_comeTo 148 = .ok (.getfield 102, 3) := by decide +kernel
theorem dX12_comeTo_151 : decode cX12_comeTo 151 = .ok (.bipush 28, 2) := by decide +kernel
theorem dX12_comeTo_153 : decode cX12_comeTo 153 = .ok (.iload 4, 2) := by decide +kernel
theorem dX12_comeTo_155 : decode cX12_comeTo 155 = .ok (.iadd, 1) := by decide +kernel
theorem dX12_comeTo_156 : decode cX12_comeTo 156 = .ok (.iconst (-1), 1) := by decide +kernel
theorem dX12_comeTo_157 : decode cX12_comeTo 157 = .ok (.iastore, 1) := by decide +kernel
theorem dX12_comeTo_158 : decode cX12_comeTo 158 = .ok (.aload_n 0, 1) := by decide +kernel
theorem dX12_comeTo_159 : decode cX12_comeTo 159 = .ok (.getfield 102, 3) := by decide +kernel
theorem dX12_comeTo_162 : decode cX12_comeTo 162 = .ok (.bipush 18, 2) := by decide +kernel
theorem dX12_comeTo_164 : decode cX12_comeTo 164 = .ok (.iload 4, 2) := by decide +kernel
theorem dX12_comeTo_166 : decode cX12_comeTo 166 = .ok (.iadd, 1) := by decide +kernel
theorem dX12_comeTo_167 : decode cX12_comeTo 167 = .ok (.iload_n 2, 1) := by decide +kernel
theorem dX12_comeTo_168 : decode cX12_comeTo 168 = .ok (.iastore, 1) := by decide +kernel
theorem dX12_comeTo_169 : decode cX12_comeTo 169 = .ok (.iinc 4 1, 3) := by decide +kernel
theorem dX12_comeTo_172 : decode cX12_comeTo 172 = .ok (.goto (-54), 3) := by decide +kernel
theorem dX12_comeTo_175 : decode cX12_comeTo 175 = .ok (.return_, 1) := by decide +kernel
theorem dX12_stepOne_0 : decode cX12_stepOne 0 = .ok (.iconst 0, 1) := by decide +kernel
theorem dX12_stepOne_1 : decode cX12_stepOne 1 = .ok (.istore_n 1, 1) := by decide +kernel
theorem dX12_stepOne_2 : decode cX12_stepOne 2 = .ok (.iload_n 1, 1) := by decide +kernel
theorem dX12_stepOne_3 : decode cX12_stepOne 3 = .ok (.aload_n 0, 1) := by decide +kernel
theorem dX12_stepOne_4 : decode cX12_stepOne 4 = .ok (.getfield 401, 3) := by decide +kernel
theorem dX12_stepOne_7 : decode cX12_stepOne 7 = .ok (.if_icmp .ge 91, 3) := by decide +kernel
theorem dX12_stepOne_10 : decode cX12_stepOne 10 = .ok (.aload_n 0, 1) := by decide +kernel
theorem dX12_stepOne_11 : decode cX12_stepOne 11 = .ok (.getfield 102, 3) := by decide +kernel
theorem dX12_stepOne_14 : decode cX12_stepOne 14 = .ok (.iload_n 1, 1) := by decide +kernel
theorem dX12_stepOne_15 : decode cX12_stepOne 15 = .ok (.iaload, 1) := by decide +kernel
theorem dX12_stepOne_16 : decode cX12_stepOne 16 = .ok (.ifCond .ne 33, 3) := by decide +kernel
theorem dX12_stepOne_19 : decode cX12_stepOne 19 = .ok (.aload_n 0, 1) := by decide +kernel
theorem dX12_stepOne_20 : decode cX12_stepOne 20 = .ok (.getfield 78, 3) := by decide +kernel
theorem dX12_stepOne_23 : decode cX12_stepOne 23 = .ok (.iload_n 1, 1) := by decide +kernel
theorem dX12_stepOne_24 : decode cX12_stepOne 24 = .ok (.iaload, 1) := by decide +kernel
theorem dX12_stepOne_25 : decode cX12_stepOne 25 = .ok (.aload_n 0, 1) := by decide +kernel
theorem dX12_stepOne_26 : decode cX12_stepOne 26 = .ok (.getfield 102, 3) := by decide +kernel
theorem dX12_stepOne_29 : decode cX12_stepOne 29 = .ok (.bipush 90, 2) := by decide +kernel
theorem dX12_stepOne_31 : decode cX12_stepOne 31 = .ok (.iaload, 1) := by decide +kernel
theorem dX12_stepOne_32 : decode cX12_stepOne 32 = .ok (.if_icmp .ne 17, 3) := by decide +kernel
theorem dX12_stepOne_35 : decode cX12_stepOne 35 = .ok (.aload_n 0, 1) := by decide +kernel
theorem dX12_stepOne_36 : decode cX12_stepOne 36 = .ok (.iload_n 1, 1) := by decide +kernel
theorem dX12_stepOne_37 : decode cX12_stepOne 37 = .ok (.aload_n 0, 1) := by decide +kernel
theorem dX12_stepOne_38 : decode cX12_stepOne 38 = .ok (.getfield 72, 3) := by decide +kernel
theorem dX12_stepOne_41 : decode cX12_stepOne 41 = .ok (.iload_n 1, 1) := by decide +kernel
theorem dX12_stepOne_42 : decode cX12_stepOne 42 = .ok (.iaload, 1) := by decide +kernel
theorem dX12_stepOne_43 : decode cX12_stepOne 43 = .ok (.invokevirtual 457, 3) := by decide +kernel
theorem dX12_stepOne_46 : decode cX12_stepOne 46 = .ok (.goto 46, 3) := by decide +kernel
theorem dX12_stepOne_49 : decode cX12_stepOne 49 = .ok (.aload_n 0, 1) := by decide +kernel
theorem dX12_stepOne_50 : decode cX12_stepOne 50 = .ok (.getfield 102, 3) := by decide +kernel
theorem dX12_stepOne_53 : decode cX12_stepOne 53 = .ok (.iload_n 1, 1) := by decide +kernel
theorem dX12_stepOne_54 : decode cX12_stepOne 54 = .ok (.iaload, 1) := by decide +kernel
theorem dX12_stepOne_55 : decode cX12_stepOne 55 = .ok (.iconst 2, 1) := by decide +kernel
theorem dX12_stepOne_56 : decode cX12_stepOne 56 = .ok (.if_icmp .ne 36, 3) := by decide +kernel
theorem dX12_stepOne_59 : decode cX12_stepOne 59 = .ok (.aload_n 0, 1) := by decide +kernel
theorem dX12_stepOne_60 : decode cX12_stepOne 60 = .ok (.getfield 102, 3) := by decide +kernel
theorem dX12_stepOne_63 : decode cX12_stepOne 63 = .ok (.bipush 12, 2) := by decide +kernel
theorem dX12_stepOne_65 : decode cX12_stepOne 65 = .ok (.iload_n 1, 1) := by decide +kernel
theorem dX12_stepOne_66 : decode cX12_stepOne 66 = .ok (.iadd, 1) := by decide +kernel
theorem dX12_stepOne_67 : decode cX12_stepOne 67 = .ok (.iaload, 1) := by decide +kernel
theorem dX12_stepOne_68 : decode cX12_stepOne 68 = .ok (.aload_n 0, 1) := by decide +kernel
theorem dX12_stepOne_69 : decode cX12_stepOne 69 = .ok (.getfield 102, 3) := by decide +kernel
theorem dX12_stepOne_72 : decode cX12_stepOne 72 = .ok (.bipush 90, 2) := by decide +kernel
theorem dX12_stepOne_74 : decode cX12_stepOne 74 = .ok (.iaload, 1) := by decide +kernel
theorem dX12_stepOne_75 : decode cX12_stepOne 75 = .ok (.if_icmp .ne 17, 3) := by decide +kernel
theorem dX12_stepOne_78 : decode cX12_stepOne 78 = .ok (.aload_n 0, 1) := by decide +kernel
theorem dX12_stepOne_79 : decode cX12_stepOne 79 = .ok (.iload_n 1, 1) := by decide +kernel
theorem dX12_stepOne_80 : decode cX12_stepOne 80 = .ok (.aload_n 0, 1) := by decide +kernel
theorem dX12_stepOne_81 : decode cX12_stepOne 81 = .ok (.getfield 102, 3) := by decide +kernel
theorem dX12_stepOne_84 : decode cX12_stepOne 84 = .ok (.bipush 6, 2) := by decide +kernel
theorem dX12_stepOne_86 : decode cX12_stepOne 86 = .ok (.iload_n 1, 1) := by decide +kernel
theorem dX12_stepOne_87 : decode cX12_stepOne 87 = .ok (.iadd, 1) := by decide +kernel
theorem dX12_stepOne_88 : decode cX12_stepOne 88 = .ok (.iaload, 1) := by decide +kernel
theorem dX12_stepOne_89 : decode cX12_stepOne 89 = .ok (.invokevirtual 457, 3) := by decide +kernel
theorem dX12_stepOne_92 : decode cX12_stepOne 92 = .ok (.iinc 1 1, 3) := by decide +kernel
theorem dX12_stepOne_95 : decode cX12_stepOne 95 = .ok (.goto (-93), 3) := by decide +kernel
theorem dX12_stepOne_98 : decode cX12_stepOne 98 = .ok (.return_, 1) := by decide +kernel
theorem dX12_standsAt_0 : decode cX12_standsAt 0 = .ok (.aload_n 0, 1) := by decide +kernel
theorem dX12_standsAt_1 : decode cX12_standsAt 1 = .ok (.getfield 102, 3) := by decide +kernel
theorem dX12_standsAt_4 : decode cX12_standsAt 4 = .ok (.iload_n 1, 1) := by decide +kernel
theorem dX12_standsAt_5 : decode cX12_standsAt 5 = .ok (.iaload, 1) := by decide +kernel
theorem dX12_standsAt_6 : decode cX12_standsAt 6 = .ok (.iconst 1, 1) := by decide +kernel
theorem dX12_standsAt_7 : decode cX12_standsAt 7 = .ok (.if_icmp .ne 20, 3) := by decide +kernel
theorem dX12_standsAt_10 : decode cX12_standsAt 10 = .ok (.aload_n 0, 1) := by decide +kernel
theorem dX12_standsAt_11 : decode cX12_standsAt 11 = .ok (.getfield 102, 3) := by decide +kernel
theorem dX12_standsAt_14 : decode cX12_standsAt 14 = .ok (.bipush 6, 2) := by decide +kernel
theorem dX12_standsAt_16 : decode cX12_standsAt 16 = .ok (.iload_n 1, 1) := by decide +kernel
theorem dX12_standsAt_17 : decode cX12_standsAt 17 = .ok (.iadd, 1) := by decide +kernel
theorem dX12_standsAt_18 : decode cX12_standsAt 18 = .ok (.iaload, 1) := by decide +kernel
theorem dX12_standsAt_19 : decode cX12_standsAt 19 = .ok (.iload_n 2, 1) := by decide +kernel
theorem dX12_standsAt_20 : decode cX12_standsAt 20 = .ok (.if_icmp .ne 7, 3) := by decide +kernel
theorem dX12_standsAt_23 : decode cX12_standsAt 23 = .ok (.iconst 1, 1) := by decide +kernel
theorem dX12_standsAt_24 : decode cX12_standsAt 24 = .ok (.goto 4, 3) := by decide +kernel
theorem dX12_standsAt_27 : decode cX12_standsAt 27 = .ok (.iconst 0, 1) := by decide +kernel
theorem dX12_standsAt_28 : decode cX12_standsAt 28 = .ok (.ireturn, 1) := by decide +kernel
theorem dX12_villageOf_0 : decode cX12_villageOf 0 = .ok (.aload_n 0, 1) := by decide +kernel
theorem dX12_villageOf_1 : decode cX12_villageOf 1 = .ok (.getfield 102, 3) := by decide +kernel
theorem dX12_villageOf_4 : decode cX12_villageOf 4 = .ok (.bipush 28, 2) := by decide +kernel
theorem dX12_villageOf_6 : decode cX12_villageOf 6 = .ok (.iload_n 1, 1) := by decide +kernel
theorem dX12_villageOf_7 : decode cX12_villageOf 7 = .ok (.iadd, 1) := by decide +kernel
theorem dX12_villageOf_8 : decode cX12_villageOf 8 = .ok (.iaload, 1) := by decide +kernel
theorem dX12_villageOf_9 : decode cX12_villageOf 9 = .ok (.istore_n 2, 1) := by decide +kernel
theorem dX12_villageOf_10 : decode cX12_villageOf 10 = .ok (.aload_n 0, 1) := by decide +kernel
theorem dX12_villageOf_11 : decode cX12_villageOf 11 = .ok (.getfield 102, 3) := by decide +kernel
theorem dX12_villageOf_14 : decode cX12_villageOf 14 = .ok (.bipush 38, 2) := by decide +kernel
theorem dX12_villageOf_16 : decode cX12_villageOf 16 = .ok (.iload_n 1, 1) := by decide +kernel
theorem dX12_villageOf_17 : decode cX12_villageOf 17 = .ok (.iadd, 1) := by decide +kernel
theorem dX12_villageOf_18 : decode cX12_villageOf 18 = .ok (.iaload, 1) := by decide +kernel
theorem dX12_villageOf_19 : decode cX12_villageOf 19 = .ok (.ifCond .lt 7, 3) := by decide +kernel
theorem dX12_villageOf_22 : decode cX12_villageOf 22 = .ok (.iconst (-1), 1) := by decide +kernel
theorem dX12_villageOf_23 : decode cX12_villageOf 23 = .ok (.goto 42, 3) := by decide +kernel
theorem dX12_villageOf_26 : decode cX12_villageOf 26 = .ok (.iload_n 2, 1) := by decide +kernel
theorem dX12_villageOf_27 : decode cX12_villageOf 27 = .ok (.ifCond .ge 15, 3) := by decide +kernel
theorem dX12_villageOf_30 : decode cX12_villageOf 30 = .ok (.aload_n 0, 1) := by decide +kernel
theorem dX12_villageOf_31 : decode cX12_villageOf 31 = .ok (.getfield 102, 3) := by decide +kernel
theorem dX12_villageOf_34 : decode cX12_villageOf 34 = .ok (.bipush 18, 2) := by decide +kernel
theorem dX12_villageOf_36 : decode cX12_villageOf 36 = .ok (.iload_n 1, 1) := by decide +kernel
theorem dX12_villageOf_37 : decode cX12_villageOf 37 = .ok (.iadd, 1) := by decide +kernel
theorem dX12_villageOf_38 : decode cX12_villageOf 38 = .ok (.iaload, 1) := by decide +kernel
theorem dX12_villageOf_39 : decode cX12_villageOf 39 = .ok (.goto 26, 3) := by decide +kernel
theorem dX12_villageOf_42 : decode cX12_villageOf 42 = .ok (.aload_n 0, 1) := by decide +kernel
theorem dX12_villageOf_43 : decode cX12_villageOf 43 = .ok (.getfield 102, 3) := by decide +kernel
theorem dX12_villageOf_46 : decode cX12_villageOf 46 = .ok (.iload_n 2, 1) := by decide +kernel
theorem dX12_villageOf_47 : decode cX12_villageOf 47 = .ok (.iaload, 1) := by decide +kernel
theorem dX12_villageOf_48 : decode cX12_villageOf 48 = .ok (.iconst 1, 1) := by decide +kernel
theorem dX12_villageOf_49 : decode cX12_villageOf 49 = .ok (.if_icmp .ne 15, 3) := by decide +kernel
theorem dX12_villageOf_52 : decode cX12_villageOf 52 = .ok (.aload_n 0, 1) := by decide +kernel
theorem dX12_villageOf_53 : decode cX12_villageOf 53 = .ok (.getfield 102, 3) := by decide +kernel
theorem dX12_villageOf_56 : decode cX12_villageOf 56 = .ok (.bipush 6, 2) := by decide +kernel
theorem dX12_villageOf_58 : decode cX12_villageOf 58 = .ok (.iload_n 2, 1) := by decide +kernel
theorem dX12_villageOf_59 : decode cX12_villageOf 59 = .ok (.iadd, 1) := by decide +kernel
theorem dX12_villageOf_60 : decode cX12_villageOf 60 = .ok (.iaload, 1) := by decide +kernel
theorem dX12_villageOf_61 : decode cX12_villageOf 61 = .ok (.goto 4, 3) := by decide +kernel
theorem dX12_villageOf_64 : decode cX12_villageOf 64 = .ok (.iconst (-1), 1) := by decide +kernel
theorem dX12_villageOf_65 : decode cX12_villageOf 65 = .ok (.ireturn, 1) := by decide +kernel
theorem dX12_stepTwo_0 : decode cX12_stepTwo 0 = .ok (.iconst 0, 1) := by decide +kernel
theorem dX12_stepTwo_1 : decode cX12_stepTwo 1 = .ok (.istore_n 1, 1) := by decide +kernel
theorem dX12_stepTwo_2 : decode cX12_stepTwo 2 = .ok (.iconst 0, 1) := by decide +kernel
theorem dX12_stepTwo_3 : decode cX12_stepTwo 3 = .ok (.istore_n 2, 1) := by decide +kernel
theorem dX12_stepTwo_4 : decode cX12_stepTwo 4 = .ok (.iload_n 2, 1) := by decide +kernel
theorem dX12_stepTwo_5 : decode cX12_stepTwo 5 = .ok (.aload_n 0, 1) := by decide +kernel
theorem dX12_stepTwo_6 : decode cX12_stepTwo 6 = .ok (.getfield 102, 3) := by decide +kernel
theorem dX12_stepTwo_9 : decode cX12_stepTwo 9 = .ok (.bipush 88, 2) := by decide +kernel
theorem dX12_stepTwo_11 : decode cX12_stepTwo 11 = .ok (.iaload, 1) := by decide +kernel
theorem dX12_stepTwo_12 : decode cX12_stepTwo 12 = .ok (.if_icmp .ge 76, 3) := by decide +kernel
theorem dX12_stepTwo_15 : decode cX12_stepTwo 15 = .ok (.aload_n 0, 1) := by decide +kernel
theorem dX12_stepTwo_16 : decode cX12_stepTwo 16 = .ok (.iload_n 2, 1) := by decide +kernel
theorem dX12_stepTwo_17 : decode cX12_stepTwo 17 = .ok (.invokevirtual 460, 3) := by decide +kernel
theorem dX12_stepTwo_20 : decode cX12_stepTwo 20 = .ok (.ifCond .lt 62, 3) := by decide +kernel
theorem dX12_stepTwo_23 : decode cX12_stepTwo 23 = .ok (.aload_n 0, 1) := by decide +kernel
theorem dX12_stepTwo_24 : decode cX12_stepTwo 24 = .ok (.iload_n 2, 1) := by decide +kernel
theorem dX12_stepTwo_25 : decode cX12_stepTwo 25 = .ok (.invokevirtual 460, 3) := by decide +kernel
theorem dX12_stepTwo_28 : decode cX12_stepTwo 28 = .ok (.aload_n 0, 1) := by decide +kernel
theorem dX12_stepTwo_29 : decode cX12_stepTwo 29 = .ok (.getfield 102, 3) := by decide +kernel
theorem dX12_stepTwo_32 : decode cX12_stepTwo 32 = .ok (.bipush 58, 2) := by decide +kernel
theorem dX12_stepTwo_34 : decode cX12_stepTwo 34 = .ok (.iload_n 2, 1) := by decide +kernel
theorem dX12_stepTwo_35 : decode cX12_stepTwo 35 = .ok (.iadd, 1) := by decide +kernel
theorem dX12_stepTwo_36 : decode cX12_stepTwo 36 = .ok (.iaload, 1) := by decide +kernel
theorem dX12_stepTwo_37 : decode cX12_stepTwo 37 = .ok (.if_icmp .eq 6, 3) := by decide +kernel
theorem dX12_stepTwo_40 : decode cX12_stepTwo 40 = .ok (.goto 42, 3) := by decide +kernel
theorem dX12_stepTwo_43 : decode cX12_stepTwo 43 = .ok (.aload_n 0, 1) := by decide +kernel
theorem dX12_stepTwo_44 : decode cX12_stepTwo 44 = .ok (.getfield 102, 3) := by decide +kernel
theorem dX12_stepTwo_47 : decode cX12_stepTwo 47 = .ok (.bipush 38, 2) := by decide +kernel
theorem dX12_stepTwo_49 : decode cX12_stepTwo 49 = .ok (.iload_n 2, 1) := by decide +kernel
theorem dX12_stepTwo_50 : decode cX12_stepTwo 50 = .ok (.iadd, 1) := by decide +kernel
theorem dX12_stepTwo_51 : decode cX12_stepTwo 51 = .ok (.aload_n 0, 1) := by decide +kernel
theorem dX12_stepTwo_52 : decode cX12_stepTwo 52 = .ok (.getfield 102, 3) := by decide +kernel
theorem dX12_stepTwo_55 : decode cX12_stepTwo 55 = .ok (.bipush 90, 2) := by decide +kernel
theorem dX12_stepTwo_57 : decode cX12_stepTwo 57 = .ok (.iaload, 1) := by decide +kernel
theorem dX12_stepTwo_58 : decode cX12_stepTwo 58 = .ok (.iastore, 1) := by decide +kernel
theorem dX12_stepTwo_59 : decode cX12_stepTwo 59 = .ok (.aload_n 0, 1) := by decide +kernel
theorem dX12_stepTwo_60 : decode cX12_stepTwo 60 = .ok (.getfield 102, 3) := by decide +kernel
theorem dX12_stepTwo_63 : decode cX12_stepTwo 63 = .ok (.bipush 18, 2) := by decide +kernel
theorem dX12_stepTwo_65 : decode cX12_stepTwo 65 = .ok (.iload_n 2, 1) := by decide +kernel
theorem dX12_stepTwo_66 : decode cX12_stepTwo 66 = .ok (.iadd, 1) := by decide +kernel
theorem dX12_stepTwo_67 : decode cX12_stepTwo 67 = .ok (.iconst (-1), 1) := by decide +kernel
theorem dX12_stepTwo_68 : decode cX12_stepTwo 68 = .ok (.iastore, 1) := by decide +kernel
theorem dX12_stepTwo_69 : decode cX12_stepTwo 69 = .ok (.aload_n 0, 1) := by decide +kernel
theorem dX12_stepTwo_70 : decode cX12_stepTwo 70 = .ok (.getfield 102, 3) := by decide +kernel
theorem dX12_stepTwo_73 : decode cX12_stepTwo 73 = .ok (.bipush 28, 2) := by decide +kernel
theorem dX12_stepTwo_75 : decode cX12_stepTwo 75 = .ok (.iload_n 2, 1) := by decide +kernel
theorem dX12_stepTwo_76 : decode cX12_stepTwo 76 = .ok (.iadd, 1) := by decide +kernel
theorem dX12_stepTwo_77 : decode cX12_stepTwo 77 = .ok (.iconst (-1), 1) := by decide +kernel
theorem dX12_stepTwo_78 : decode cX12_stepTwo 78 = .ok (.iastore, 1) := by decide +kernel
theorem dX12_stepTwo_79 : decode cX12_stepTwo 79 = .ok (.iinc 1 1, 3) := by decide +kernel
theorem dX12_stepTwo_82 : decode cX12_stepTwo 82 = .ok (.iinc 2 1, 3) := by decide +kernel
theorem dX12_stepTwo_85 : decode cX12_stepTwo 85 = .ok (.goto (-81), 3) := by decide +kernel
theorem dX12_stepTwo_88 : decode cX12_stepTwo 88 = .ok (.iload_n 1, 1) := by decide +kernel
theorem dX12_stepTwo_89 : decode cX12_stepTwo 89 = .ok (.ireturn, 1) := by decide +kernel
theorem dX12_lettersIn_0 : decode cX12_lettersIn 0 = .ok (.iconst 0, 1) := by decide +kernel
theorem dX12_lettersIn_1 : decode cX12_lettersIn 1 = .ok (.istore_n 2, 1) := by decide +kernel
theorem dX12_lettersIn_2 : decode cX12_lettersIn 2 = .ok (.iconst 0, 1) := by decide +kernel
theorem dX12_lettersIn_3 : decode cX12_lettersIn 3 = .ok (.istore_n 3, 1) := by decide +kernel
theorem dX12_lettersIn_4 : decode cX12_lettersIn 4 = .ok (.iload_n 3, 1) := by decide +kernel
theorem dX12_lettersIn_5 : decode cX12_lettersIn 5 = .ok (.aload_n 0, 1) := by decide +kernel
theorem dX12_lettersIn_6 : decode cX12_lettersIn 6 = .ok (.getfield 102, 3) := by decide +kernel
theorem dX12_lettersIn_9 : decode cX12_lettersIn 9 = .ok (.bipush 88, 2) := by decide +kernel
theorem dX12_lettersIn_11 : decode cX12_lettersIn 11 = .ok (.iaload, 1) := by decide +kernel
theorem dX12_lettersIn_12 : decode cX12_lettersIn 12 = .ok (.if_icmp .ge 33, 3) := by decide +kernel
theorem dX12_lettersIn_15 : decode cX12_lettersIn 15 = .ok (.iload_n 2, 1) := by decide +kernel
theorem dX12_lettersIn_16 : decode cX12_lettersIn 16 = .ok (.aload_n 0, 1) := by decide +kernel
theorem dX12_lettersIn_17 : decode cX12_lettersIn 17 = .ok (.getfield 102, 3) := by decide +kernel
theorem dX12_lettersIn_20 : decode cX12_lettersIn 20 = .ok (.bipush 28, 2) := by decide +kernel
theorem dX12_lettersIn_22 : decode cX12_lettersIn 22 = .ok (.iload_n 3, 1) := by decide +kernel
theorem dX12_lettersIn_23 : decode cX12_lettersIn 23 = .ok (.iadd, 1) := by decide +kernel
theorem dX12_lettersIn_24 : decode cX12_lettersIn 24 = .ok (.iaload, 1) := by decide +kernel
theorem dX12_lettersIn_25 : decode cX12_lettersIn 25 = .ok (.iload_n 1, 1) := by decide +kernel
theorem dX12_lettersIn_26 : decode cX12_lettersIn 26 = .ok (.if_icmp .ne 7, 3) := by decide +kernel
theorem dX12_lettersIn_29 : decode cX12_lettersIn 29 = .ok (.iconst 1, 1) := by decide +kernel
theorem dX12_lettersIn_30 : decode cX12_lettersIn 30 = .ok (.goto 4, 3) := by decide +kernel
theorem dX12_lettersIn_33 : decode cX12_lettersIn 33 = .ok (.iconst 0, 1) := by decide +kernel
theorem dX12_lettersIn_34 : decode cX12_lettersIn 34 = .ok (.invokestatic 317, 3) := by decide +kernel
theorem dX12_lettersIn_37 : decode cX12_lettersIn 37 = .ok (.iadd, 1) := by decide +kernel
theorem dX12_lettersIn_38 : decode cX12_lettersIn 38 = .ok (.istore_n 2, 1) := by decide +kernel
theorem dX12_lettersIn_39 : decode cX12_lettersIn 39 = .ok (.iinc 3 1, 3) := by decide +kernel
theorem dX12_lettersIn_42 : decode cX12_lettersIn 42 = .ok (.goto (-38), 3) := by decide +kernel
theorem dX12_lettersIn_45 : decode cX12_lettersIn 45 = .ok (.iload_n 2, 1) := by decide +kernel
theorem dX12_lettersIn_46 : decode cX12_lettersIn 46 = .ok (.ireturn, 1) := by decide +kernel
theorem dX12_nearOf_0 : decode cX12_nearOf 0 = .ok (.aload_n 0, 1) := by decide +kernel
theorem dX12_nearOf_1 : decode cX12_nearOf 1 = .ok (.iload_n 1, 1) := by decide +kernel
theorem dX12_nearOf_2 : decode cX12_nearOf 2 = .ok (.invokevirtual 463, 3) := by decide +kernel
theorem dX12_nearOf_5 : decode cX12_nearOf 5 = .ok (.istore_n 3, 1) := by decide +kernel
theorem dX12_nearOf_6 : decode cX12_nearOf 6 = .ok (.sipush 1000, 3) := by decide +kernel
theorem dX12_nearOf_9 : decode cX12_nearOf 9 = .ok (.istore 4, 2) := by decide +kernel
theorem dX12_nearOf_11 : decode cX12_nearOf 11 = .ok (.iconst 0, 1) := by decide +kernel
theorem dX12_nearOf_12 : decode cX12_nearOf 12 = .ok (.istore 5, 2) := by decide +kernel
theorem dX12_nearOf_14 : decode cX12_nearOf 14 = .ok (.iload 5, 2) := by decide +kernel
theorem dX12_nearOf_16 : decode cX12_nearOf 16 = .ok (.aload_n 0, 1) := by decide +kernel
theorem dX12_nearOf_17 : decode cX12_nearOf 17 = .ok (.getfield 395, 3) := by decide +kernel
theorem dX12_nearOf_20 : decode cX12_nearOf 20 = .ok (.if_icmp .ge 40, 3) := by decide +kernel
theorem dX12_nearOf_23 : decode cX12_nearOf 23 = .ok (.iload_n 3, 1) := by decide +kernel
theorem dX12_nearOf_24 : decode cX12_nearOf 24 = .ok (.iload 5, 2) := by decide +kernel
theorem dX12_nearOf_26 : decode cX12_nearOf 26 = .ok (.ishr, 1) := by decide +kernel
theorem dX12_nearOf_27 : decode cX12_nearOf 27 = .ok (.iconst 1, 1) := by decide +kernel
theorem dX12_nearOf_28 : decode cX12_nearOf 28 = .ok (.iand, 1) := by decide +kernel
theorem dX12_nearOf_29 : decode cX12_nearOf 29 = .ok (.iconst 1, 1) := by decide +kernel
theorem dX12_nearOf_30 : decode cX12_nearOf 30 = .ok (.if_icmp .ne 24, 3) := by decide +kernel
theorem dX12_nearOf_33 : decode cX12_nearOf 33 = .ok (.aload_n 0, 1) := by decide +kernel
theorem dX12_nearOf_34 : decode cX12_nearOf 34 = .ok (.iload 5, 2) := by decide +kernel
theorem dX12_nearOf_36 : decode cX12_nearOf 36 = .ok (.iload_n 2, 1) := by decide +kernel
theorem dX12_nearOf_37 : decode cX12_nearOf 37 = .ok (.invokevirtual 439, 3) := by decide +kernel
theorem dX12_nearOf_40 : decode cX12_nearOf 40 = .ok (.iload 4, 2) := by decide +kernel
theorem dX12_nearOf_42 : decode cX12_nearOf 42 = .ok (.if_icmp .ge 12, 3) := by decide +kernel
theorem dX12_nearOf_45 : decode cX12_nearOf 45 = .ok (.aload_n 0, 1) := by decide +kernel
theorem dX12_nearOf_46 : decode cX12_nearOf 46 = .ok (.iload 5, 2) := by decide +kernel
theorem dX12_nearOf_48 : decode cX12_nearOf 48 = .ok (.iload_n 2, 1) := by decide +kernel
theorem dX12_nearOf_49 : decode cX12_nearOf 49 = .ok (.invokevirtual 439, 3) := by decide +kernel
theorem dX12_nearOf_52 : decode cX12_nearOf 52 = .ok (.istore 4, 2) := by decide +kernel
theorem dX12_nearOf_54 : decode cX12_nearOf 54 = .ok (.iinc 5 1, 3) := by decide +kernel
theorem dX12_nearOf_57 : decode cX12_nearOf 57 = .ok (.goto (-43), 3) := by decide +kernel
theorem dX12_nearOf_60 : decode cX12_nearOf 60 = .ok (.iload 4, 2) := by decide +kernel
theorem dX12_nearOf_62 : decode cX12_nearOf 62 = .ok (.ireturn, 1) := by decide +kernel
theorem dX12_putInto_0 : decode cX12_putInto 0 = .ok (.aload_n 0, 1) := by decide +kernel
theorem dX12_putInto_1 : decode cX12_putInto 1 = .ok (.getfield 102, 3) := by decide +kernel
theorem dX12_putInto_4 : decode cX12_putInto 4 = .ok (.bipush 28, 2) := by decide +kernel
theorem dX12_putInto_6 : decode cX12_putInto 6 = .ok (.iload_n 1, 1) := by decide +kernel
theorem dX12_putInto_7 : decode cX12_putInto 7 = .ok (.iadd, 1) := by decide +kernel
theorem dX12_putInto_8 : decode cX12_putInto 8 = .ok (.iaload, 1) := by decide +kernel
theorem dX12_putInto_9 : decode cX12_putInto 9 = .ok (.iload_n 2, 1) := by decide +kernel
theorem dX12_putInto_10 : decode cX12_putInto 10 = .ok (.if_icmp .ne 4, 3) := by decide +kernel
theorem dX12_putInto_13 : decode cX12_putInto 13 = .ok (.return_, 1) := by decide +kernel
theorem dX12_putInto_14 : decode cX12_putInto 14 = .ok (.aload_n 0, 1) := by decide +kernel
theorem dX12_putInto_15 : decode cX12_putInto 15 = .ok (.getfield 102, 3) := by decide +kernel
theorem dX12_putInto_18 : decode cX12_putInto 18 = .ok (.bipush 28, 2) := by decide +kernel
theorem dX12_putInto_20 : decode cX12_putInto 20 = .ok (.iload_n 1, 1) := by decide +kernel
theorem dX12_putInto_21 : decode cX12_putInto 21 = .ok (.iadd, 1) := by decide +kernel
theorem dX12_putInto_22 : decode cX12_putInto 22 = .ok (.iload_n 2, 1) := by decide +kernel
theorem dX12_putInto_23 : decode cX12_putInto 23 = .ok (.iastore, 1) := by decide +kernel
theorem dX12_putInto_24 : decode cX12_putInto 24 = .ok (.aload_n 0, 1) := by decide +kernel
theorem dX12_putInto_25 : decode cX12_putInto 25 = .ok (.getfield 102, 3) := by decide +kernel
theorem dX12_putInto_28 : decode cX12_putInto 28 = .ok (.bipush 18, 2) := by decide +kernel
theorem dX12_putInto_30 : decode cX12_putInto 30 = .ok (.iload_n 1, 1) := by decide +kernel
theorem dX12_putInto_31 : decode cX12_putInto 31 = .ok (.iadd, 1) := by decide +kernel
theorem dX12_putInto_32 : decode cX12_putInto 32 = .ok (.iconst (-1), 1) := by decide +kernel
theorem dX12_putInto_33 : decode cX12_putInto 33 = .ok (.iastore, 1) := by decide +kernel
theorem dX12_putInto_34 : decode cX12_putInto 34 = .ok (.aload_n 0, 1) := by decide +kernel
theorem dX12_putInto_35 : decode cX12_putInto 35 = .ok (.getfield 102, 3) := by decide +kernel
theorem dX12_putInto_38 : decode cX12_putInto 38 = .ok (.bipush 48, 2) := by decide +kernel
theorem dX12_putInto_40 : decode cX12_putInto 40 = .ok (.iload_n 1, 1) := by decide +kernel
theorem dX12_putInto_41 : decode cX12_putInto 41 = .ok (.iadd, 1) := by decide +kernel
theorem dX12_putInto_42 : decode cX12_putInto 42 = .ok (.dup2, 1) := by decide +kernel
theorem dX12_putInto_43 : decode cX12_putInto 43 = .ok (.iaload, 1) := by decide +kernel
theorem dX12_putInto_44 : decode cX12_putInto 44 = .ok (.iconst 1, 1) := by decide +kernel
theorem dX12_putInto_45 : decode cX12_putInto 45 = .ok (.iadd, 1) := by decide +kernel
theorem dX12_putInto_46 : decode cX12_putInto 46 = .ok (.iastore, 1) := by decide +kernel
theorem dX12_putInto_47 : decode cX12_putInto 47 = .ok (.iload_n 1, 1) := by decide +kernel
theorem dX12_putInto_48 : decode cX12_putInto 48 = .ok (.ifCond .gt 12, 3) := by decide +kernel
theorem dX12_putInto_51 : decode cX12_putInto 51 = .ok (.aload_n 0, 1) := by decide +kernel
theorem dX12_putInto_52 : decode cX12_putInto 52 = .ok (.getfield 433, 3) := by decide +kernel
theorem dX12_putInto_55 : decode cX12_putInto 55 = .ok (.bipush 20, 2) := by decide +kernel
theorem dX12_putInto_57 : decode cX12_putInto 57 = .ok (.if_icmp .ne 4, 3) := by decide +kernel
theorem dX12_putInto_60 : decode cX12_putInto 60 = .ok (.return_, 1) := by decide +kernel
theorem dX12_putInto_61 : decode cX12_putInto 61 = .ok (.aload_n 0, 1) := by decide +kernel
theorem dX12_putInto_62 : decode cX12_putInto 62 = .ok (.getfield 108, 3) := by decide +kernel
theorem dX12_putInto_65 : decode cX12_putInto 65 = .ok (.aload_n 0, 1) := by decide +kernel
theorem dX12_putInto_66 : decode cX12_putInto 66 = .ok (.getfield 433, 3) := by decide +kernel
theorem dX12_putInto_69 : decode cX12_putInto 69 = .ok (.iload_n 2, 1) := by decide +kernel
theorem dX12_putInto_70 : decode cX12_putInto 70 = .ok (.iastore, 1) := by decide +kernel
theorem dX12_putInto_71 : decode cX12_putInto 71 = .ok (.aload_n 0, 1) := by decide +kernel
theorem dX12_putInto_72 : decode cX12_putInto 72 = .ok (.dup, 1) := by decide +kernel
theorem dX12_putInto_73 : decode cX12_putInto 73 = .ok (.getfield 433, 3) := by decide +kernel
theorem dX12_putInto_76 : decode cX12_putInto 76 = .ok (.iconst 1, 1) := by decide +kernel
theorem dX12_putInto_77 : decode cX12_putInto 77 = .ok (.iadd, 1) := by decide +kernel
theorem dX12_putInto_78 : decode cX12_putInto 78 = .ok (.putfield 433, 3) := by decide +kernel
theorem dX12_putInto_81 : decode cX12_putInto 81 = .ok (.return_, 1) := by decide +kernel
theorem dX12_handOn_0 : decode cX12_handOn 0 = .ok (.aload_n 0, 1) := by decide +kernel
theorem dX12_handOn_1 : decode cX12_handOn 1 = .ok (.getfield 102, 3) := by decide +kernel
theorem dX12_handOn_4 : decode cX12_handOn 4 = .ok (.bipush 28, 2) := by decide +kernel
theorem dX12_handOn_6 : decode cX12_handOn 6 = .ok (.iload_n 1, 1) := by decide +kernel
theorem dX12_handOn_7 : decode cX12_handOn 7 = .ok (.iadd, 1) := by decide +kernel
theorem dX12_handOn_8 : decode cX12_handOn 8 = .ok (.iaload, 1) := by decide +kernel
theorem dX12_handOn_9 : decode cX12_handOn 9 = .ok (.istore_n 3, 1) := by decide +kernel
theorem dX12_handOn_10 : decode cX12_handOn 10 = .ok (.iconst (-1), 1) := by decide +kernel
theorem dX12_handOn_11 : decode cX12_handOn 11 = .ok (.istore 4, 2) := by decide +kernel
theorem dX12_handOn_13 : decode cX12_handOn 13 = .ok (.aload_n 0, 1) := by decide +kernel
theorem dX12_handOn_14 : decode cX12_handOn 14 = .ok (.iload_n 2, 1) := by decide +kernel
theorem dX12_handOn_15 : decode cX12_handOn 15 = .ok (.aload_n 0, 1) := by decide +kernel
theorem dX12_handOn_16 : decode cX12_handOn 16 = .ok (.getfield 102, 3) := by decide +kernel
theorem dX12_handOn_19 : decode cX12_handOn 19 = .ok (.bipush 58, 2) := by decide +kernel
theorem dX12_handOn_21 : decode cX12_handOn 21 = .ok (.iload_n 1, 1) := by decide +kernel
theorem dX12_handOn_22 : decode cX12_handOn 22 = .ok (.iadd, 1) := by decide +kernel
theorem dX12_handOn_23 : decode cX12_handOn 23 = .ok (.iaload, 1) := by decide +kernel
theorem dX12_handOn_24 : decode cX12_handOn 24 = .ok (.invokevirtual 439, 3) := by decide +kernel
theorem dX12_handOn_27 : decode cX12_handOn 27 = .ok (.istore 5, 2) := by decide +kernel
theorem dX12_handOn_29 : decode cX12_handOn 29 = .ok (.iload_n 3, 1) := by decide +kernel
theorem dX12_handOn_30 : decode cX12_handOn 30 = .ok (.ifCond .lt 41, 3) := by decide +kernel
theorem dX12_handOn_33 : decode cX12_handOn 33 = .ok (.aload_n 0, 1) := by decide +kernel
theorem dX12_handOn_34 : decode cX12_handOn 34 = .ok (.iload_n 3, 1) := by decide +kernel
theorem dX12_handOn_35 : decode cX12_handOn 35 = .ok (.aload_n 0, 1) := by decide +kernel
theorem dX12_handOn_36 : decode cX12_handOn 36 = .ok (.getfield 102, 3) := by decide +kernel
theorem dX12_handOn_39 : decode cX12_handOn 39 = .ok (.bipush 58, 2) := by decide +kernel
theorem dX12_handOn_41 : decode cX12_handOn 41 = .ok (.iload_n 1, 1) := by decide +kernel
theorem dX12_handOn_42 : decode cX12_handOn 42 = .ok (.iadd, 1) := by decide +kernel
theorem dX12_handOn_43 : decode cX12_handOn 43 = .ok (.iaload, 1) := by decide +kernel
theorem dX12_handOn_44 : decode cX12_handOn 44 = .ok (.invokevirtual 466, 3) := by decide +kernel
theorem dX12_handOn_47 : decode cX12_handOn 47 = .ok (.iload 5, 2) := by decide +kernel
theorem dX12_handOn_49 : decode cX12_handOn 49 = .ok (.if_icmp .ge 22, 3) := by decide +kernel
theorem dX12_handOn_52 : decode cX12_handOn 52 = .ok (.iload_n 3, 1) := by decide +kernel
theorem dX12_handOn_53 : decode cX12_handOn 53 = .ok (.istore 4, 2) := by decide +kernel
theorem dX12_handOn_55 : decode cX12_handOn 55 = .ok (.aload_n 0, 1) := by decide +kernel
theorem dX12_handOn_56 : decode cX12_handOn 56 = .ok (.iload_n 3, 1) := by decide +kernel
theorem dX12_handOn_57 : decode cX12_handOn 57 = .ok (.aload_n 0, 1) := by decide +kernel
theorem dX12_handOn_58 : decode cX12_handOn 58 = .ok (.getfield 102, 3) := by decide +kernel
theorem dX12_handOn_61 : decode cX12_handOn 61 = .ok (.bipush 58, 2) := by decide +kernel
theorem dX12_handOn_63 : decode cX12_handOn 63 = .ok (.iload_n 1, 1) := by decide +kernel
theorem dX12_handOn_64 : decode cX12_handOn 64 = .ok (.iadd, 1) := by decide +kernel
theorem dX12_handOn_65 : decode cX12_handOn 65 = .ok (.iaload, 1) := by decide +kernel
theorem dX12_handOn_66 : decode cX12_handOn 66 = .ok (.invokevirtual 466, 3) := by decide +kernel
theorem dX12_handOn_69 : decode cX12_handOn 69 = .ok (.istore 5, 2) := by decide +kernel
theorem dX12_handOn_71 : decode cX12_handOn 71 = .ok (.iconst 0, 1) := by decide +kernel
theorem dX12_handOn_72 : decode cX12_handOn 72 = .ok (.istore 6, 2) := by decide +kernel
theorem dX12_handOn_74 : decode cX12_handOn 74 = .ok (.iload 6, 2) := by decide +kernel
theorem dX12_handOn_76 : decode cX12_handOn 76 = .ok (.aload_n 0, 1) := by decide +kernel
theorem dX12_handOn_77 : decode cX12_handOn 77 = .ok (.getfield 401, 3) := by decide +kernel
theorem dX12_handOn_80 : decode cX12_handOn 80 = .ok (.if_icmp .ge 79, 3) := by decide +kernel
theorem dX12_handOn_83 : decode cX12_handOn 83 = .ok (.aload_n 0, 1) := by decide +kernel
theorem dX12_handOn_84 : decode cX12_handOn 84 = .ok (.iload 6, 2) := by decide +kernel
theorem dX12_handOn_86 : decode cX12_handOn 86 = .ok (.iload_n 2, 1) := by decide +kernel
theorem dX12_handOn_87 : decode cX12_handOn 87 = .ok (.invokevirtual 469, 3) := by decide +kernel
theorem dX12_handOn_90 : decode cX12_handOn 90 = .ok (.ifCond .eq 63, 3) := by decide +kernel
theorem dX12_handOn_93 : decode cX12_handOn 93 = .ok (.iload 6, 2) := by decide +kernel
theorem dX12_handOn_95 : decode cX12_handOn 95 = .ok (.iload_n 3, 1) := by decide +kernel
theorem dX12_handOn_96 : decode cX12_handOn 96 = .ok (.if_icmp .eq 57, 3) := by decide +kernel
theorem dX12_handOn_99 : decode cX12_handOn 99 = .ok (.aload_n 0, 1) := by decide +kernel
theorem dX12_handOn_100 : decode cX12_handOn 100 = .ok (.iload 6, 2) := by decide +kernel
theorem dX12_handOn_102 : decode cX12_handOn 102 = .ok (.invokevirtual 472, 3) := by decide +kernel
theorem dX12_handOn_105 : decode cX12_handOn 105 = .ok (.aload_n 0, 1) := by decide +kernel
theorem dX12_handOn_106 : decode cX12_handOn 106 = .ok (.getfield 81, 3) := by decide +kernel
theorem dX12_handOn_109 : decode cX12_handOn 109 = .ok (.iload 6, 2) := by decide +kernel
theorem dX12_handOn_111 : decode cX12_handOn 111 = .ok (.iaload, 1) := by decide +kernel
theorem dX12_handOn_112 : decode cX12_handOn 112 = .ok (.if_icmp .ne 6, 3) := by decide +kernel
theorem dX12_handOn_115 : decode cX12_handOn 115 = .ok (.goto 38, 3) := by decide +kernel
theorem dX12_handOn_118 : decode cX12_handOn 118 = .ok (.aload_n 0, 1) := by decide +kernel
theorem dX12_handOn_119 : decode cX12_handOn 119 = .ok (.iload 6, 2) := by decide +kernel
theorem dX12_handOn_121 : decode cX12_handOn 121 = .ok (.aload_n 0, 1) := by decide +kernel
theorem dX12_handOn_122 : decode cX12_handOn 122 = .ok (.getfield 102, 3) := by decide +kernel
theorem dX12_handOn_125 : decode cX12_handOn 125 = .ok (.bipush 58, 2) := by decide +kernel
theorem dX12_handOn_127 : decode cX12_handOn 127 = .ok (.iload_n 1, 1) := by decide +kernel
theorem dX12_handOn_128 : decode cX12_handOn 128 = .ok (.iadd, 1) := by decide +kernel
theorem dX12_handOn_129 : decode cX12_handOn 129 = .ok (.iaload, 1) := by decide +kernel
theorem dX12_handOn_130 : decode cX12_handOn 130 = .ok (.invokevirtual 466, 3) := by decide +kernel
theorem dX12_handOn_133 : decode cX12_handOn 133 = .ok (.istore 7, 2) := by decide +kernel
theorem dX12_handOn_135 : decode cX12_handOn 135 = .ok (.iload 7, 2) := by decide +kernel
theorem dX12_handOn_137 : decode cX12_handOn 137 = .ok (.iload 5, 2) := by decide +kernel
theorem dX12_handOn_139 : decode cX12_handOn 139 = .ok (.if_icmp .lt 6, 3) := by decide +kernel
theorem dX12_handOn_142 : decode cX12_handOn 142 = .ok (.goto 11, 3) := by decide +kernel
theorem dX12_handOn_145 : decode cX12_handOn 145 = .ok (.iload 6, 2) := by decide +kernel
theorem dX12_handOn_147 : decode cX12_handOn 147 = .ok (.istore 4, 2) := by decide +kernel
theorem dX12_handOn_149 : decode cX12_handOn 149 = .ok (.iload 7, 2) := by decide +kernel
theorem dX12_handOn_151 : decode cX12_handOn 151 = .ok (.istore 5, 2) := by decide +kernel
theorem dX12_handOn_153 : decode cX12_handOn 153 = .ok (.iinc 6 1, 3) := by decide +kernel
theorem dX12_handOn_156 : decode cX12_handOn 156 = .ok (.goto (-82), 3) := by decide +kernel
theorem dX12_handOn_159 : decode cX12_handOn 159 = .ok (.iload 4, 2) := by decide +kernel
theorem dX12_handOn_161 : decode cX12_handOn 161 = .ok (.ifCond .lt 13, 3) := by decide +kernel
theorem dX12_handOn_164 : decode cX12_handOn 164 = .ok (.aload_n 0, 1) := by decide +kernel
theorem dX12_handOn_165 : decode cX12_handOn 165 = .ok (.iload_n 1, 1) := by decide +kernel
theorem dX12_handOn_166 : decode cX12_handOn 166 = .ok (.iload 4, 2) := by decide +kernel
theorem dX12_handOn_168 : decode cX12_handOn 168 = .ok (.invokevirtual 475, 3) := by decide +kernel
theorem dX12_handOn_171 : decode cX12_handOn 171 = .ok (.goto 23, 3) := by decide +kernel
theorem dX12_handOn_174 : decode cX12_handOn 174 = .ok (.aload_n 0, 1) := by decide +kernel
theorem dX12_handOn_175 : decode cX12_handOn 175 = .ok (.getfield 102, 3) := by decide +kernel
theorem dX12_handOn_178 : decode cX12_handOn 178 = .ok (.bipush 28, 2) := by decide +kernel
theorem dX12_handOn_180 : decode cX12_handOn 180 = .ok (.iload_n 1, 1) := by decide +kernel
theorem dX12_handOn_181 : decode cX12_handOn 181 = .ok (.iadd, 1) := by decide +kernel
theorem dX12_handOn_182 : decode cX12_handOn 182 = .ok (.iconst (-1), 1) := by decide +kernel
theorem dX12_handOn_183 : decode cX12_handOn 183 = .ok (.iastore, 1) := by decide +kernel
theorem dX12_handOn_184 : decode cX12_handOn 184 = .ok (.aload_n 0, 1) := by decide +kernel
theorem dX12_handOn_185 : decode cX12_handOn 185 = .ok (.getfield 102, 3) := by decide +kernel
theorem dX12_handOn_188 : decode cX12_handOn 188 = .ok (.bipush 18, 2) := by decide +kernel
theorem dX12_handOn_190 : decode cX12_handOn 190 = .ok (.iload_n 1, 1) := by decide +kernel
theorem dX12_handOn_191 : decode cX12_handOn 191 = .ok (.iadd, 1) := by decide +kernel
theorem dX12_handOn_192 : decode cX12_handOn 192 = .ok (.iload_n 2, 1) := by decide +kernel
theorem dX12_handOn_193 : decode cX12_handOn 193 = .ok (.iastore, 1) := by decide +kernel
theorem dX12_handOn_194 : decode cX12_handOn 194 = .ok (.return_, 1) := by decide +kernel
theorem dX12_stepThree_0 : decode cX12_stepThree 0 = .ok (.iconst 0, 1) := by decide +kernel
theorem dX12_stepThree_1 : decode cX12_stepThree 1 = .ok (.istore_n 1, 1) := by decide +kernel
theorem dX12_stepThree_2 : decode cX12_stepThree 2 = .ok (.iload_n 1, 1) := by decide +kernel
theorem dX12_stepThree_3 : decode cX12_stepThree 3 = .ok (.aload_n 0, 1) := by decide +kernel
theorem dX12_stepThree_4 : decode cX12_stepThree 4 = .ok (.getfield 395, 3) := by decide +kernel
theorem dX12_stepThree_7 : decode cX12_stepThree 7 = .ok (.if_icmp .ge 43, 3) := by decide +kernel
theorem dX12_stepThree_10 : decode cX12_stepThree 10 = .ok (.iconst 0, 1) := by decide +kernel
theorem dX12_stepThree_11 : decode cX12_stepThree 11 = .ok (.istore_n 2, 1) := by decide +kernel
theorem dX12_stepThree_12 : decode cX12_stepThree 12 = .ok (.iload_n 2, 1) := by decide +kernel
theorem dX12_stepThree_13 : decode cX12_stepThree 13 = .ok (.aload_n 0, 1) := by decide +kernel
theorem dX12_stepThree_14 : decode cX12_stepThree 14 = .ok (.getfield 102, 3) := by decide +kernel
theorem dX12_stepThree_17 : decode cX12_stepThree 17 = .ok (.bipush 88, 2) := by decide +kernel
theorem dX12_stepThree_19 : decode cX12_stepThree 19 = .ok (.iaload, 1) := by decide +kernel
theorem dX12_stepThree_20 : decode cX12_stepThree 20 = .ok (.if_icmp .ge 24, 3) := by decide +kernel
theorem dX12_stepThree_23 : decode cX12_stepThree 23 = .ok (.aload_n 0, 1) := by decide +kernel
theorem dX12_stepThree_24 : decode cX12_stepThree 24 = .ok (.iload_n 2, 1) := by decide +kernel
theorem dX12_stepThree_25 : decode cX12_stepThree 25 = .ok (.invokevirtual 460, 3) := by decide +kernel
theorem dX12_stepThree_28 : decode cX12_stepThree 28 = .ok (.iload_n 1, 1) := by decide +kernel
theorem dX12_stepThree_29 : decode cX12_stepThree 29 = .ok (.if_icmp .ne 9, 3) := by decide +kernel
theorem dX12_stepThree_32 : decode cX12_stepThree 32 = .ok (.aload_n 0, 1) := by decide +kernel
theorem dX12_stepThree_33 : decode cX12_stepThree 33 = .ok (.iload_n 2, 1) := by decide +kernel
theorem dX12_stepThree_34 : decode cX12_stepThree 34 = .ok (.iload_n 1, 1) := by decide +kernel
theorem dX12_stepThree_35 : decode cX12_stepThree 35 = .ok (.invokevirtual 478, 3) := by decide +kernel
theorem dX12_stepThree_38 : decode cX12_stepThree 38 = .ok (.iinc 2 1, 3) := by decide +kernel
theorem dX12_stepThree_41 : decode cX12_stepThree 41 = .ok (.goto (-29), 3) := by decide +kernel
theorem dX12_stepThree_44 : decode cX12_stepThree 44 = .ok (.iinc 1 1, 3) := by decide +kernel
theorem dX12_stepThree_47 : decode cX12_stepThree 47 = .ok (.goto (-45), 3) := by decide +kernel
theorem dX12_stepThree_50 : decode cX12_stepThree 50 = .ok (.return_, 1) := by decide +kernel
theorem dX12_stepFour_0 : decode cX12_stepFour 0 = .ok (.aload_n 0, 1) := by decide +kernel
theorem dX12_stepFour_1 : decode cX12_stepFour 1 = .ok (.getfield 102, 3) := by decide +kernel
theorem dX12_stepFour_4 : decode cX12_stepFour 4 = .ok (.bipush 90, 2) := by decide +kernel
theorem dX12_stepFour_6 : decode cX12_stepFour 6 = .ok (.iaload, 1) := by decide +kernel
theorem dX12_stepFour_7 : decode cX12_stepFour 7 = .ok (.istore_n 1, 1) := by decide +kernel
theorem dX12_stepFour_8 : decode cX12_stepFour 8 = .ok (.iconst 0, 1) := by decide +kernel
theorem dX12_stepFour_9 : decode cX12_stepFour 9 = .ok (.istore_n 2, 1) := by decide +kernel
theorem dX12_stepFour_10 : decode cX12_stepFour 10 = .ok (.iload_n 2, 1) := by decide +kernel
theorem dX12_stepFour_11 : decode cX12_stepFour 11 = .ok (.aload_n 0, 1) := by decide +kernel
theorem dX12_stepFour_12 : decode cX12_stepFour 12 = .ok (.getfield 401, 3) := by decide +kernel
theorem dX12_stepFour_15 : decode cX12_stepFour 15 = .ok (.if_icmp .ge 119, 3) := by decide +kernel
theorem dX12_stepFour_18 : decode cX12_stepFour 18 = .ok (.aload_n 0, 1) := by decide +kernel
theorem dX12_stepFour_19 : decode cX12_stepFour 19 = .ok (.getfield 102, 3) := by decide +kernel
theorem dX12_stepFour_22 : decode cX12_stepFour 22 = .ok (.iload_n 2, 1) := by decide +kernel
theorem dX12_stepFour_23 : decode cX12_stepFour 23 = .ok (.iaload, 1) := by decide +kernel
theorem dX12_stepFour_24 : decode cX12_stepFour 24 = .ok (.iconst 1, 1) := by decide +kernel
theorem dX12_stepFour_25 : decode cX12_stepFour 25 = .ok (.if_icmp .ne 103, 3) := by decide +kernel
theorem dX12_stepFour_28 : decode cX12_stepFour 28 = .ok (.iload_n 1, 1) := by decide +kernel
theorem dX12_stepFour_29 : decode cX12_stepFour 29 = .ok (.aload_n 0, 1) := by decide +kernel
theorem dX12_stepFour_30 : decode cX12_stepFour 30 = .ok (.getfield 102, 3) := by decide +kernel
theorem dX12_stepFour_33 : decode cX12_stepFour 33 = .ok (.bipush 12, 2) := by decide +kernel
theorem dX12_stepFour_35 : decode cX12_stepFour 35 = .ok (.iload_n 2, 1) := by decide +kernel
theorem dX12_stepFour_36 : decode cX12_stepFour 36 = .ok (.iadd, 1) := by decide +kernel
theorem dX12_stepFour_37 : decode cX12_stepFour 37 = .ok (.iaload, 1) := by decide +kernel
theorem dX12_stepFour_38 : decode cX12_stepFour 38 = .ok (.if_icmp .lt 90, 3) := by decide +kernel
theorem dX12_stepFour_41 : decode cX12_stepFour 41 = .ok (.iload_n 1, 1) := by decide +kernel
theorem dX12_stepFour_42 : decode cX12_stepFour 42 = .ok (.aload_n 0, 1) := by decide +kernel
theorem dX12_stepFour_43 : decode cX12_stepFour 43 = .ok (.getfield 96, 3) := by decide +kernel
theorem dX12_stepFour_46 : decode cX12_stepFour 46 = .ok (.aload_n 0, 1) := by decide +kernel
theorem dX12_stepFour_47 : decode cX12_stepFour 47 = .ok (.getfield 404, 3) := by decide +kernel
theorem dX12_stepFour_50 : decode cX12_stepFour 50 = .ok (.invokestatic 426, 3) := by decide +kernel
theorem dX12_stepFour_53 : decode cX12_stepFour 53 = .ok (.ifCond .eq 6, 3) := by decide +kernel
theorem dX12_stepFour_56 : decode cX12_stepFour 56 = .ok (.goto 72, 3) := by decide +kernel
theorem dX12_stepFour_59 : decode cX12_stepFour 59 = .ok (.aload_n 0, 1) := by decide +kernel
theorem dX12_stepFour_60 : decode cX12_stepFour 60 = .ok (.aload_n 0, 1) := by decide +kernel
theorem dX12_stepFour_61 : decode cX12_stepFour 61 = .ok (.getfield 102, 3) := by decide +kernel
theorem dX12_stepFour_64 : decode cX12_stepFour 64 = .ok (.bipush 6, 2) := by decide +kernel
theorem dX12_stepFour_66 : decode cX12_stepFour 66 = .ok (.iload_n 2, 1) := by decide +kernel
theorem dX12_stepFour_67 : decode cX12_stepFour 67 = .ok (.iadd, 1) := by decide +kernel
theorem dX12_stepFour_68 : decode cX12_stepFour 68 = .ok (.iaload, 1) := by decide +kernel
theorem dX12_stepFour_69 : decode cX12_stepFour 69 = .ok (.aload_n 0, 1) := by decide +kernel
theorem dX12_stepFour_70 : decode cX12_stepFour 70 = .ok (.getfield 75, 3) := by decide +kernel
theorem dX12_stepFour_73 : decode cX12_stepFour 73 = .ok (.iload_n 2, 1) := by decide +kernel
theorem dX12_stepFour_74 : decode cX12_stepFour 74 = .ok (.iaload, 1) := by decide +kernel
theorem dX12_stepFour_75 : decode cX12_stepFour 75 = .ok (.invokevirtual 445, 3) := by decide +kernel
theorem dX12_stepFour_78 : decode cX12_stepFour 78 = .ok (.istore_n 3, 1) := by decide +kernel
theorem dX12_stepFour_79 : decode cX12_stepFour 79 = .ok (.iload_n 3, 1) := by decide +kernel
theorem dX12_stepFour_80 : decode cX12_stepFour 80 = .ok (.ifCond .ge 6, 3) := by decide +kernel
theorem dX12_stepFour_83 : decode cX12_stepFour 83 = .ok (.goto 45, 3) := by decide +kernel
theorem dX12_stepFour_86 : decode cX12_stepFour 86 = .ok (.aload_n 0, 1) := by decide +kernel
theorem dX12_stepFour_87 : decode cX12_stepFour 87 = .ok (.getfield 102, 3) := by decide +kernel
theorem dX12_stepFour_90 : decode cX12_stepFour 90 = .ok (.iload_n 2, 1) := by decide +kernel
theorem dX12_stepFour_91 : decode cX12_stepFour 91 = .ok (.iconst 2, 1) := by decide +kernel
theorem dX12_stepFour_92 : decode cX12_stepFour 92 = .ok (.iastore, 1) := by decide +kernel
theorem dX12_stepFour_93 : decode cX12_stepFour 93 = .ok (.aload_n 0, 1) := by decide +kernel
theorem dX12_stepFour_94 : decode cX12_stepFour 94 = .ok (.getfield 102, 3) := by decide +kernel
theorem dX12_stepFour_97 : decode cX12_stepFour 97 = .ok (.bipush 12, 2) := by decide +kernel
theorem dX12_stepFour_99 : decode cX12_stepFour 99 = .ok (.iload_n 2, 1) := by decide +kernel
theorem dX12_stepFour_100 : decode cX12_stepFour 100 = .ok (.iadd, 1) := by decide +kernel
theorem dX12_stepFour_101 : decode cX12_stepFour 101 = .ok (.iload_n 1, 1) := by decide +kernel
theorem dX12_stepFour_102 : decode cX12_stepFour 102 = .ok (.aload_n 0, 1) := by decide +kernel
theorem dX12_stepFour_103 : decode cX12_stepFour 103 = .ok (.aload_n 0, 1) := by decide +kernel
theorem dX12_stepFour_104 : decode cX12_stepFour 104 = .ok (.getfield 102, 3) := by decide +kernel
theorem dX12_stepFour_107 : decode cX12_stepFour 107 = .ok (.bipush 6, 2) := by decide +kernel
theorem dX12_stepFour_109 : decode cX12_stepFour 109 = .ok (.iload_n 2, 1) := by decide +kernel
theorem dX12_stepFour_110 : decode cX12_stepFour 110 = .ok (.iadd, 1) := by decide +kernel
theorem dX12_stepFour_111 : decode cX12_stepFour 111 = .ok (.iaload, 1) := by decide +kernel
theorem dX12_stepFour_112 : decode cX12_stepFour 112 = .ok (.iload_n 3, 1) := by decide +kernel
theorem dX12_stepFour_113 : decode cX12_stepFour 113 = .ok (.invokevirtual 442, 3) := by decide +kernel
theorem dX12_stepFour_116 : decode cX12_stepFour 116 = .ok (.iadd, 1) := by decide +kernel
theorem dX12_stepFour_117 : decode cX12_stepFour 117 = .ok (.iastore, 1) := by decide +kernel
theorem dX12_stepFour_118 : decode cX12_stepFour 118 = .ok (.aload_n 0, 1) := by decide +kernel
theorem dX12_stepFour_119 : decode cX12_stepFour 119 = .ok (.getfield 102, 3) := by decide +kernel
theorem dX12_stepFour_122 : decode cX12_stepFour 122 = .ok (.bipush 6, 2) := by decide +kernel
theorem dX12_stepFour_124 : decode cX12_stepFour 124 = .ok (.iload_n 2, 1) := by decide +kernel
theorem dX12_stepFour_125 : decode cX12_stepFour 125 = .ok (.iadd, 1) := by decide +kernel
theorem dX12_stepFour_126 : decode cX12_stepFour 126 = .ok (.iload_n 3, 1) := by decide +kernel
theorem dX12_stepFour_127 : decode cX12_stepFour 127 = .ok (.iastore, 1) := by decide +kernel
theorem dX12_stepFour_128 : decode cX12_stepFour 128 = .ok (.iinc 2 1, 3) := by decide +kernel
theorem dX12_stepFour_131 : decode cX12_stepFour 131 = .ok (.goto (-121), 3) := by decide +kernel
theorem dX12_stepFour_134 : decode cX12_stepFour 134 = .ok (.aload_n 0, 1) := by decide +kernel
theorem dX12_stepFour_135 : decode cX12_stepFour 135 = .ok (.getfield 102, 3) := by decide +kernel
theorem dX12_stepFour_138 : decode cX12_stepFour 138 = .ok (.bipush 90, 2) := by decide +kernel
theorem dX12_stepFour_140 : decode cX12_stepFour 140 = .ok (.dup2, 1) := by decide +kernel
theorem dX12_stepFour_141 : decode cX12_stepFour 141 = .ok (.iaload, 1) := by decide +kernel
theorem dX12_stepFour_142 : decode cX12_stepFour 142 = .ok (.iconst 1, 1) := by decide +kernel
theorem dX12_stepFour_143 : decode cX12_stepFour 143 = .ok (.iadd, 1) := by decide +kernel
theorem dX12_stepFour_144 : decode cX12_stepFour 144 = .ok (.iastore, 1) := by decide +kernel
theorem dX12_stepFour_145 : decode cX12_stepFour 145 = .ok (.return_, 1) := by decide +kernel
theorem dX12_goDay_0 : decode cX12_goDay 0 = .ok (.aload_n 0, 1) := by decide +kernel
theorem dX12_goDay_1 : decode cX12_goDay 1 = .ok (.invokevirtual 481, 3) := by decide +kernel
theorem dX12_goDay_4 : decode cX12_goDay 4 = .ok (.aload_n 0, 1) := by decide +kernel
theorem dX12_goDay_5 : decode cX12_goDay 5 = .ok (.invokevirtual 484, 3) := by decide +kernel
theorem dX12_goDay_8 : decode cX12_goDay 8 = .ok (.istore_n 1, 1) := by decide +kernel
theorem dX12_goDay_9 : decode cX12_goDay 9 = .ok (.aload_n 0, 1) := by decide +kernel
theorem dX12_goDay_10 : decode cX12_goDay 10 = .ok (.invokevirtual 487, 3) := by decide +kernel
theorem dX12_goDay_13 : decode cX12_goDay 13 = .ok (.aload_n 0, 1) := by decide +kernel
theorem dX12_goDay_14 : decode cX12_goDay 14 = .ok (.invokevirtual 490, 3) := by decide +kernel
theorem dX12_goDay_17 : decode cX12_goDay 17 = .ok (.iload_n 1, 1) := by decide +kernel
theorem dX12_goDay_18 : decode cX12_goDay 18 = .ok (.ireturn, 1) := by decide +kernel
theorem dX12_bier_0 : decode cX12_bier 0 = .ok (.aload_n 0, 1) := by decide +kernel
theorem dX12_bier_1 : decode cX12_bier 1 = .ok (.iload_n 1, 1) := by decide +kernel
theorem dX12_bier_2 : decode cX12_bier 2 = .ok (.invokevirtual 493, 3) := by decide +kernel
theorem dX12_bier_5 : decode cX12_bier 5 = .ok (.ifCond .ne 6, 3) := by decide +kernel
theorem dX12_bier_8 : decode cX12_bier 8 = .ok (.bipush (-2), 2) := by decide +kernel
theorem dX12_bier_10 : decode cX12_bier 10 = .ok (.ireturn, 1) := by decide +kernel
theorem dX12_bier_11 : decode cX12_bier 11 = .ok (.aload_n 0, 1) := by decide +kernel
theorem dX12_bier_12 : decode cX12_bier 12 = .ok (.invokevirtual 496, 3) := by decide +kernel
theorem dX12_bier_15 : decode cX12_bier 15 = .ok (.iload_n 2, 1) := by decide +kernel
theorem dX12_bier_16 : decode cX12_bier 16 = .ok (.tableswitch 100 0 5 #[40, 47, 57, 67, 73, 80], 40) := by decide +kernel
theorem dX12_bier_56 : decode cX12_bier 56 = .ok (.aload_n 0, 1) := by decide +kernel
theorem dX12_bier_57 : decode cX12_bier 57 = .ok (.getfield 102, 3) := by decide +kernel
theorem dX12_bier_60 : decode cX12_bier 60 = .ok (.iload_n 1, 1) := by decide +kernel
theorem dX12_bier_61 : decode cX12_bier 61 = .ok (.iaload, 1) := by decide +kernel
theorem dX12_bier_62 : decode cX12_bier 62 = .ok (.ireturn, 1) := by decide +kernel
theorem dX12_bier_63 : decode cX12_bier 63 = .ok (.aload_n 0, 1) := by decide +kernel
theorem dX12_bier_64 : decode cX12_bier 64 = .ok (.getfield 102, 3) := by decide +kernel
theorem dX12_bier_67 : decode cX12_bier 67 = .ok (.bipush 6, 2) := by decide +kernel
theorem dX12_bier_69 : decode cX12_bier 69 = .ok (.iload_n 1, 1) := by decide +kernel
theorem dX12_bier_70 : decode cX12_bier 70 = .ok (.iadd, 1) := by decide +kernel
theorem dX12_bier_71 : decode cX12_bier 71 = .ok (.iaload, 1) := by decide +kernel
theorem dX12_bier_72 : decode cX12_bier 72 = .ok (.ireturn, 1) := by decide +kernel
theorem dX12_bier_73 : decode cX12_bier 73 = .ok (.aload_n 0, 1) := by decide +kernel
theorem dX12_bier_74 : decode cX12_bier 74 = .ok (.getfield 102, 3) := by decide +kernel
theorem dX12_bier_77 : decode cX12_bier 77 = .ok (.bipush 12, 2) := by decide +kernel
theorem dX12_bier_79 : decode cX12_bier 79 = .ok (.iload_n 1, 1) := by decide +kernel
theorem dX12_bier_80 : decode cX12_bier 80 = .ok (.iadd, 1) := by decide +kernel
theorem dX12_bier_81 : decode cX12_bier 81 = .ok (.iaload, 1) := by decide +kernel
theorem dX12_bier_82 : decode cX12_bier 82 = .ok (.ireturn, 1) := by decide +kernel
theorem dX12_bier_83 : decode cX12_bier 83 = .ok (.aload_n 0, 1) := by decide +kernel
theorem dX12_bier_84 : decode cX12_bier 84 = .ok (.iload_n 1, 1) := by decide +kernel
theorem dX12_bier_85 : decode cX12_bier 85 = .ok (.invokevirtual 472, 3) := by decide +kernel
theorem dX12_bier_88 : decode cX12_bier 88 = .ok (.ireturn, 1) := by decide +kernel
theorem dX12_bier_89 : decode cX12_bier 89 = .ok (.aload_n 0, 1) := by decide +kernel
theorem dX12_bier_90 : decode cX12_bier 90 = .ok (.getfield 75, 3) := by decide +kernel
theorem dX12_bier_93 : decode cX12_bier 93 = .ok (.iload_n 1, 1) := by decide +kernel
theorem dX12_bier_94 : decode cX12_bier 94 = .ok (.iaload, 1) := by decide +kernel
theorem dX12_bier_95 : decode cX12_bier 95 = .ok (.ireturn, 1) := by decide +kernel
theorem dX12_bier_96 : decode cX12_bier 96 = .ok (.aload_n 0, 1) := by decide +kernel
theorem dX12_bier_97 : decode cX12_bier 97 = .ok (.getfield 102, 3) := by decide +kernel
theorem dX12_bier_100 : decode cX12_bier 100 = .ok (.iload_n 1, 1) := by decide +kernel
theorem dX12_bier_101 : decode cX12_bier 101 = .ok (.iaload, 1) := by decide +kernel
theorem dX12_bier_102 : decode cX12_bier 102 = .ok (.iconst 1, 1) := by decide +kernel
theorem dX12_bier_103 : decode cX12_bier 103 = .ok (.if_icmp .ne 11, 3) := by decide +kernel
theorem dX12_bier_106 : decode cX12_bier 106 = .ok (.aload_n 0, 1) := by decide +kernel
theorem dX12_bier_107 : decode cX12_bier 107 = .ok (.iload_n 1, 1) := by decide +kernel
theorem dX12_bier_108 : decode cX12_bier 108 = .ok (.invokevirtual 463, 3) := by decide +kernel
theorem dX12_bier_111 : decode cX12_bier 111 = .ok (.goto 4, 3) := by decide +kernel
theorem dX12_bier_114 : decode cX12_bier 114 = .ok (.iconst 0, 1) := by decide +kernel
theorem dX12_bier_115 : decode cX12_bier 115 = .ok (.ireturn, 1) := by decide +kernel
theorem dX12_bier_116 : decode cX12_bier 116 = .ok (.bipush (-2), 2) := by decide +kernel
theorem dX12_bier_118 : decode cX12_bier 118 = .ok (.ireturn, 1) := by decide +kernel
theorem dX12_letter_0 : decode cX12_letter 0 = .ok (.aload_n 0, 1) := by decide +kernel
theorem dX12_letter_1 : decode cX12_letter 1 = .ok (.iload_n 1, 1) := by decide +kernel
theorem dX12_letter_2 : decode cX12_letter 2 = .ok (.invokevirtual 499, 3) := by decide +kernel
theorem dX12_letter_5 : decode cX12_letter 5 = .ok (.ifCond .ne 6, 3) := by decide +kernel
theorem dX12_letter_8 : decode cX12_letter 8 = .ok (.bipush (-2), 2) := by decide +kernel
theorem dX12_letter_10 : decode cX12_letter 10 = .ok (.ireturn, 1) := by decide +kernel
theorem dX12_letter_11 : decode cX12_letter 11 = .ok (.iload_n 2, 1) := by decide +kernel
theorem dX12_letter_12 : decode cX12_letter 12 = .ok (.tableswitch 114 0 6 #[44, 54, 64, 74, 84, 94, 104], 44) := by decide +kernel
theorem dX12_letter_56 : decode cX12_letter 56 = .ok (.aload_n 0, 1) := by decide +kernel
theorem dX12_letter_57 : decode cX12_letter 57 = .ok (.getfield 99, 3) := by decide +kernel
theorem dX12_letter_60 : decode cX12_letter 60 = .ok (.bipush 18, 2) := by decide +kernel
theorem dX12_letter_62 : decode cX12_letter 62 = .ok (.iload_n 1, 1) := by decide +kernel
theorem dX12_letter_63 : decode cX12_letter 63 = .ok (.iadd, 1) := by decide +kernel
theorem dX12_letter_64 : decode cX12_letter 64 = .ok (.iaload, 1) := by decide +kernel
theorem dX12_letter_65 : decode cX12_letter 65 = .ok (.ireturn, 1) := by decide +kernel
theorem dX12_letter_66 : decode cX12_letter 66 = .ok (.aload_n 0, 1) := by decide +kernel
theorem dX12_letter_67 : decode cX12_letter 67 = .ok (.getfield 99, 3) := by decide +kernel
theorem dX12_letter_70 : decode cX12_letter 70 = .ok (.bipush 28, 2) := by decide +kernel
theorem dX12_letter_72 : decode cX12_letter 72 = .ok (.iload_n 1, 1) := by decide +kernel
theorem dX12_letter_73 : decode cX12_letter 73 = .ok (.iadd, 1) := by decide +kernel
theorem dX12_letter_74 : decode cX12_letter 74 = .ok (.iaload, 1) := by decide +kernel
theorem dX12_letter_75 : decode cX12_letter 75 = .ok (.ireturn, 1) := by decide +kernel
theorem dX12_letter_76 : decode cX12_letter 76 = .ok (.aload_n 0, 1) := by decide +kernel
theorem dX12_letter_77 : decode cX12_letter 77 = .ok (.getfield 99, 3) := by decide +kernel
theorem dX12_letter_80 : decode cX12_letter 80 = .ok (.bipush 38, 2) := by decide +kernel
theorem dX12_letter_82 : decode cX12_letter 82 = .ok (.iload_n 1, 1) := by decide +kernel
theorem dX12_letter_83 : decode cX12_letter 83 = .ok (.iadd, 1) := by decide +kernel
theorem dX12_letter_84 : decode cX12_letter 84 = .ok (.iaload, 1) := by decide +kernel
theorem dX12_letter_85 : decode cX12_letter 85 = .ok (.ireturn, 1) := by decide +kernel
theorem dX12_letter_86 : decode cX12_letter 86 = .ok (.aload_n 0, 1) := by decide +kernel
theorem dX12_letter_87 : decode cX12_letter 87 = .ok (.getfield 99, 3) := by decide +kernel
theorem dX12_letter_90 : decode cX12_letter 90 = .ok (.bipush 58, 2) := by decide +kernel
theorem dX12_letter_92 : decode cX12_letter 92 = .ok (.iload_n 1, 1) := by decide +kernel
theorem dX12_letter_93 : decode cX12_letter 93 = .ok (.iadd, 1) := by decide +kernel
theorem dX12_letter_94 : decode cX12_letter 94 = .ok (.iaload, 1) := by decide +kernel
theorem dX12_letter_95 : decode cX12_letter 95 = .ok (.ireturn, 1) := by decide +kernel
theorem dX12_letter_96 : decode cX12_letter 96 = .ok (.aload_n 0, 1) := by decide +kernel
theorem dX12_letter_97 : decode cX12_letter 97 = .ok (.getfield 99, 3) := by decide +kernel
theorem dX12_letter_100 : decode cX12_letter 100 = .ok (.bipush 68, 2) := by decide +kernel
theorem dX12_letter_102 : decode cX12_letter 102 = .ok (.iload_n 1, 1) := by decide +kernel
theorem dX12_letter_103 : decode cX12_letter 103 = .ok (.iadd, 1) := by decide +kernel
theorem dX12_letter_104 : decode cX12_letter 104 = .ok (.iaload, 1) := by decide +kernel
theorem dX12_letter_105 : decode cX12_letter 105 = .ok (.ireturn, 1) := by decide +kernel
theorem dX12_letter_106 : decode cX12_letter 106 = .ok (.aload_n 0, 1) := by decide +kernel
theorem dX12_letter_107 : decode cX12_letter 107 = .ok (.getfield 99, 3) := by decide +kernel
theorem dX12_letter_110 : decode cX12_letter 110 = .ok (.bipush 78, 2) := by decide +kernel
theorem dX12_letter_112 : decode cX12_letter 112 = .ok (.iload_n 1, 1) := by decide +kernel
theorem dX12_letter_113 : decode cX12_letter 113 = .ok (.iadd, 1) := by decide +kernel
theorem dX12_letter_114 : decode cX12_letter 114 = .ok (.iaload, 1) := by decide +kernel
theorem dX12_letter_115 : decode cX12_letter 115 = .ok (.ireturn, 1) := by decide +kernel
theorem dX12_letter_116 : decode cX12_letter 116 = .ok (.aload_n 0, 1) := by decide +kernel
theorem dX12_letter_117 : decode cX12_letter 117 = .ok (.getfield 99, 3) := by decide +kernel
theorem dX12_letter_120 : decode cX12_letter 120 = .ok (.bipush 48, 2) := by decide +kernel
theorem dX12_letter_122 : decode cX12_letter 122 = .ok (.iload_n 1, 1) := by decide +kernel
theorem dX12_letter_123 : decode cX12_letter 123 = .ok (.iadd, 1) := by decide +kernel
theorem dX12_letter_124 : decode cX12_letter 124 = .ok (.iaload, 1) := by decide +kernel
theorem dX12_letter_125 : decode cX12_letter 125 = .ok (.ireturn, 1) := by decide +kernel
theorem dX12_letter_126 : decode cX12_letter 126 = .ok (.bipush (-2), 2) := by decide +kernel
theorem dX12_letter_128 : decode cX12_letter 128 = .ok (.ireturn, 1) := by decide +kernel
theorem dX12_pileOf_0 : decode cX12_pileOf 0 = .ok (.iconst 0, 1) := by decide +kernel
theorem dX12_pileOf_1 : decode cX12_pileOf 1 = .ok (.istore_n 2, 1) := by decide +kernel
theorem dX12_pileOf_2 : decode cX12_pileOf 2 = .ok (.iconst 0, 1) := by decide +kernel
theorem dX12_pileOf_3 : decode cX12_pileOf 3 = .ok (.istore_n 3, 1) := by decide +kernel
theorem dX12_pileOf_4 : decode cX12_pileOf 4 = .ok (.iload_n 3, 1) := by decide +kernel
theorem dX12_pileOf_5 : decode cX12_pileOf 5 = .ok (.aload_n 0, 1) := by decide +kernel
theorem dX12_pileOf_6 : decode cX12_pileOf 6 = .ok (.getfield 102, 3) := by decide +kernel
theorem dX12_pileOf_9 : decode cX12_pileOf 9 = .ok (.bipush 88, 2) := by decide +kernel
theorem dX12_pileOf_11 : decode cX12_pileOf 11 = .ok (.iaload, 1) := by decide +kernel
theorem dX12_pileOf_12 : decode cX12_pileOf 12 = .ok (.if_icmp .ge 35, 3) := by decide +kernel
theorem dX12_pileOf_15 : decode cX12_pileOf 15 = .ok (.iload_n 2, 1) := by decide +kernel
theorem dX12_pileOf_16 : decode cX12_pileOf 16 = .ok (.aload_n 0, 1) := by decide +kernel
theorem dX12_pileOf_17 : decode cX12_pileOf 17 = .ok (.getfield 102, 3) := by decide +kernel
theorem dX12_pileOf_20 : decode cX12_pileOf 20 = .ok (.bipush 18, 2) := by decide +kernel
theorem dX12_pileOf_22 : decode cX12_pileOf 22 = .ok (.iload_n 3, 1) := by decide +kernel
theorem dX12_pileOf_23 : decode cX12_pileOf 23 = .ok (.iadd, 1) := by decide +kernel
theorem dX12_pileOf_24 : decode cX12_pileOf 24 = .ok (.iaload, 1) := by decide +kernel
theorem dX12_pileOf_25 : decode cX12_pileOf 25 = .ok (.iload_n 1, 1) := by decide +kernel
theorem dX12_pileOf_26 : decode cX12_pileOf 26 = .ok (.if_icmp .ne 7, 3) := by decide +kernel
theorem dX12_pileOf_29 : decode cX12_pileOf 29 = .ok (.iconst 1, 1) := by decide +kernel
theorem dX12_pileOf_30 : decode cX12_pileOf 30 = .ok (.goto 4, 3) := by decide +kernel
theorem dX12_pileOf_33 : decode cX12_pileOf 33 = .ok (.iconst 0, 1) := by decide +kernel
theorem dX12_pileOf_34 : decode cX12_pileOf 34 = .ok (.invokestatic 317, 3) := by decide +kernel
theorem dX12_pileOf_37 : decode cX12_pileOf 37 = .ok (.iload_n 3, 1) := by decide +kernel
theorem dX12_pileOf_38 : decode cX12_pileOf 38 = .ok (.ishl, 1) := by decide +kernel
theorem dX12_pileOf_39 : decode cX12_pileOf 39 = .ok (.ior, 1) := by decide +kernel
theorem dX12_pileOf_40 : decode cX12_pileOf 40 = .ok (.istore_n 2, 1) := by decide +kernel
theorem dX12_pileOf_41 : decode cX12_pileOf 41 = .ok (.iinc 3 1, 3) := by decide +kernel
theorem dX12_pileOf_44 : decode cX12_pileOf 44 = .ok (.goto (-40), 3) := by decide +kernel
theorem dX12_pileOf_47 : decode cX12_pileOf 47 = .ok (.iload_n 2, 1) := by decide +kernel
theorem dX12_pileOf_48 : decode cX12_pileOf 48 = .ok (.ireturn, 1) := by decide +kernel
theorem dX12_standing_0 : decode cX12_standing 0 = .ok (.iconst 0, 1) := by decide +kernel
theorem dX12_standing_1 : decode cX12_standing 1 = .ok (.istore_n 2, 1) := by decide +kernel
theorem dX12_standing_2 : decode cX12_standing 2 = .ok (.iconst 0, 1) := by decide +kernel
theorem dX12_standing_3 : decode cX12_standing 3 = .ok (.istore_n 3, 1) := by decide +kernel
theorem dX12_standing_4 : decode cX12_standing 4 = .ok (.iload_n 3, 1) := by decide +kernel
theorem dX12_standing_5 : decode cX12_standing 5 = .ok (.aload_n 0, 1) := by decide +kernel
theorem dX12_standing_6 : decode cX12_standing 6 = .ok (.getfield 401, 3) := by decide +kernel
theorem dX12_standing_9 : decode cX12_standing 9 = .ok (.if_icmp .ge 23, 3) := by decide +kernel
theorem dX12_standing_12 : decode cX12_standing 12 = .ok (.iload_n 2, 1) := by decide +kernel
theorem dX12_standing_13 : decode cX12_standing 13 = .ok (.aload_n 0, 1) := by decide +kernel
theorem dX12_standing_14 : decode cX12_standing 14 = .ok (.iload_n 3, 1) := by decide +kernel
theorem dX12_standing_15 : decode cX12_standing 15 = .ok (.iload_n 1, 1) := by decide +kernel
theorem dX12_standing_16 : decode cX12_standing 16 = .ok (.invokevirtual 469, 3) := by decide +kernel
theorem dX12_standing_19 : decode cX12_standing 19 = .ok (.invokestatic 317, 3) := by decide +kernel
theorem dX12_standing_22 : decode cX12_standing 22 = .ok (.iload_n 3, 1) := by decide +kernel
theorem dX12_standing_23 : decode cX12_standing 23 = .ok (.ishl, 1) := by decide +kernel
theorem dX12_standing_24 : decode cX12_standing 24 = .ok (.ior, 1) := by decide +kernel
theorem dX12_standing_25 : decode cX12_standing 25 = .ok (.istore_n 2, 1) := by decide +kernel
theorem dX12_standing_26 : decode cX12_standing 26 = .ok (.iinc 3 1, 3) := by decide +kernel
theorem dX12_standing_29 : decode cX12_standing 29 = .ok (.goto (-25), 3) := by decide +kernel
theorem dX12_standing_32 : decode cX12_standing 32 = .ok (.iload_n 2, 1) := by decide +kernel
theorem dX12_standing_33 : decode cX12_standing 33 = .ok (.ireturn, 1) := by decide +kernel
theorem dX12_besideOf_0 : decode cX12_besideOf 0 = .ok (.iconst 0, 1) := by decide +kernel
theorem dX12_besideOf_1 : decode cX12_besideOf 1 = .ok (.istore_n 2, 1) := by decide +kernel
theorem dX12_besideOf_2 : decode cX12_besideOf 2 = .ok (.iconst 0, 1) := by decide +kernel
theorem dX12_besideOf_3 : decode cX12_besideOf 3 = .ok (.istore_n 3, 1) := by decide +kernel
theorem dX12_besideOf_4 : decode cX12_besideOf 4 = .ok (.iload_n 3, 1) := by decide +kernel
theorem dX12_besideOf_5 : decode cX12_besideOf 5 = .ok (.aload_n 0, 1) := by decide +kernel
theorem dX12_besideOf_6 : decode cX12_besideOf 6 = .ok (.getfield 395, 3) := by decide +kernel
theorem dX12_besideOf_9 : decode cX12_besideOf 9 = .ok (.if_icmp .ge 31, 3) := by decide +kernel
theorem dX12_besideOf_12 : decode cX12_besideOf 12 = .ok (.iload_n 2, 1) := by decide +kernel
theorem dX12_besideOf_13 : decode cX12_besideOf 13 = .ok (.aload_n 0, 1) := by decide +kernel
theorem dX12_besideOf_14 : decode cX12_besideOf 14 = .ok (.iload_n 1, 1) := by decide +kernel
theorem dX12_besideOf_15 : decode cX12_besideOf 15 = .ok (.iload_n 3, 1) := by decide +kernel
theorem dX12_besideOf_16 : decode cX12_besideOf 16 = .ok (.invokevirtual 442, 3) := by decide +kernel
theorem dX12_besideOf_19 : decode cX12_besideOf 19 = .ok (.ifCond .lt 7, 3) := by decide +kernel
theorem dX12_besideOf_22 : decode cX12_besideOf 22 = .ok (.iconst 1, 1) := by decide +kernel
theorem dX12_besideOf_23 : decode cX12_besideOf 23 = .ok (.goto 4, 3) := by decide +kernel
theorem dX12_besideOf_26 : decode cX12_besideOf 26 = .ok (.iconst 0, 1) := by decide +kernel
theorem dX12_besideOf_27 : decode cX12_besideOf 27 = .ok (.invokestatic 317, 3) := by decide +kernel
theorem dX12_besideOf_30 : decode cX12_besideOf 30 = .ok (.iload_n 3, 1) := by decide +kernel
theorem dX12_besideOf_31 : decode cX12_besideOf 31 = .ok (.ishl, 1) := by decide +kernel
theorem dX12_besideOf_32 : decode cX12_besideOf 32 = .ok (.ior, 1) := by decide +kernel
theorem dX12_besideOf_33 : decode cX12_besideOf 33 = .ok (.istore_n 2, 1) := by decide +kernel
theorem dX12_besideOf_34 : decode cX12_besideOf 34 = .ok (.iinc 3 1, 3) := by decide +kernel
theorem dX12_besideOf_37 : decode cX12_besideOf 37 = .ok (.goto (-33), 3) := by decide +kernel
theorem dX12_besideOf_40 : decode cX12_besideOf 40 = .ok (.iload_n 2, 1) := by decide +kernel
theorem dX12_besideOf_41 : decode cX12_besideOf 41 = .ok (.ireturn, 1) := by decide +kernel
theorem dX12_village_0 : decode cX12_village 0 = .ok (.aload_n 0, 1) := by decide +kernel
theorem dX12_village_1 : decode cX12_village 1 = .ok (.iload_n 1, 1) := by decide +kernel
theorem dX12_village_2 : decode cX12_village 2 = .ok (.invokevirtual 502, 3) := by decide +kernel
theorem dX12_village_5 : decode cX12_village 5 = .ok (.ifCond .ne 5, 3) := by decide +kernel
theorem dX12_village_8 : decode cX12_village 8 = .ok (.iconst (-1), 1) := by decide +kernel
theorem dX12_village_9 : decode cX12_village 9 = .ok (.ireturn, 1) := by decide +kernel
theorem dX12_village_10 : decode cX12_village 10 = .ok (.aload_n 0, 1) := by decide +kernel
theorem dX12_village_11 : decode cX12_village 11 = .ok (.invokevirtual 496, 3) := by decide +kernel
theorem dX12_village_14 : decode cX12_village 14 = .ok (.iload_n 2, 1) := by decide +kernel
theorem dX12_village_15 : decode cX12_village 15 = .ok (.ifCond .ne 11, 3) := by decide +kernel
theorem dX12_village_18 : decode cX12_village 18 = .ok (.aload_n 0, 1) := by decide +kernel
theorem dX12_village_19 : decode cX12_village 19 = .ok (.iload_n 1, 1) := by decide +kernel
theorem dX12_village_20 : decode cX12_village 20 = .ok (.invokevirtual 505, 3) := by decide +kernel
theorem dX12_village_23 : decode cX12_village 23 = .ok (.goto 30, 3) := by decide +kernel
theorem dX12_village_26 : decode cX12_village 26 = .ok (.iload_n 2, 1) := by decide +kernel
theorem dX12_village_27 : decode cX12_village 27 = .ok (.iconst 1, 1) := by decide +kernel
theorem dX12_village_28 : decode cX12_village 28 = .ok (.if_icmp .ne 11, 3) := by decide +kernel
theorem dX12_village_31 : decode cX12_village 31 = .ok (.aload_n 0, 1) := by decide +kernel
theorem dX12_village_32 : decode cX12_village 32 = .ok (.iload_n 1, 1) := by decide +kernel
theorem dX12_village_33 : decode cX12_village 33 = .ok (.invokevirtual 508, 3) := by decide +kernel
theorem dX12_village_36 : decode cX12_village 36 = .ok (.goto 17, 3) := by decide +kernel
theorem dX12_village_39 : decode cX12_village 39 = .ok (.iload_n 2, 1) := by decide +kernel
theorem dX12_village_40 : decode cX12_village 40 = .ok (.iconst 2, 1) := by decide +kernel
theorem dX12_village_41 : decode cX12_village 41 = .ok (.if_icmp .ne 11, 3) := by decide +kernel
theorem dX12_village_44 : decode cX12_village 44 = .ok (.aload_n 0, 1) := by decide +kernel
theorem dX12_village_45 : decode cX12_village 45 = .ok (.iload_n 1, 1) := by decide +kernel
theorem dX12_village_46 : decode cX12_village 46 = .ok (.invokevirtual 511, 3) := by decide +kernel
theorem dX12_village_49 : decode cX12_village 49 = .ok (.goto 4, 3) := by decide +kernel
theorem dX12_village_52 : decode cX12_village 52 = .ok (.iconst (-1), 1) := by decide +kernel
theorem dX12_village_53 : decode cX12_village 53 = .ok (.ireturn, 1) := by decide +kernel
theorem dX12_far_0 : decode cX12_far 0 = .ok (.aload_n 0, 1) := by decide +kernel
theorem dX12_far_1 : decode cX12_far 1 = .ok (.iload_n 1, 1) := by decide +kernel
theorem dX12_far_2 : decode cX12_far 2 = .ok (.invokevirtual 502, 3) := by decide +kernel
theorem dX12_far_5 : decode cX12_far 5 = .ok (.ifCond .eq 11, 3) := by decide +kernel
theorem dX12_far_8 : decode cX12_far 8 = .ok (.aload_n 0, 1) := by decide +kernel
theorem dX12_far_9 : decode cX12_far 9 = .ok (.iload_n 2, 1) := by decide +kernel
theorem dX12_far_10 : decode cX12_far 10 = .ok (.invokevirtual 502, 3) := by decide +kernel
theorem dX12_far_13 : decode cX12_far 13 = .ok (.ifCond .ne 5, 3) := by decide +kernel
theorem dX12_far_16 : decode cX12_far 16 = .ok (.iconst (-1), 1) := by decide +kernel
theorem dX12_far_17 : decode cX12_far 17 = .ok (.ireturn, 1) := by decide +kernel
theorem dX12_far_18 : decode cX12_far 18 = .ok (.aload_n 0, 1) := by decide +kernel
theorem dX12_far_19 : decode cX12_far 19 = .ok (.invokevirtual 496, 3) := by decide +kernel
theorem dX12_far_22 : decode cX12_far 22 = .ok (.aload_n 0, 1) := by decide +kernel
theorem dX12_far_23 : decode cX12_far 23 = .ok (.iload_n 1, 1) := by decide +kernel
theorem dX12_far_24 : decode cX12_far 24 = .ok (.iload_n 2, 1) := by decide +kernel
theorem dX12_far_25 : decode cX12_far 25 = .ok (.invokevirtual 439, 3) := by decide +kernel
theorem dX12_far_28 : decode cX12_far 28 = .ok (.ireturn, 1) := by decide +kernel
theorem dX12_act_0 : decode cX12_act 0 = .ok (.aload_n 0, 1) := by decide +kernel
theorem dX12_act_1 : decode cX12_act 1 = .ok (.getfield 414, 3) := by decide +kernel
theorem dX12_act_4 : decode cX12_act 4 = .ok (.bipush 40, 2) := by decide +kernel
theorem dX12_act_6 : decode cX12_act 6 = .ok (.if_icmp .ne 43, 3) := by decide +kernel
theorem dX12_act_9 : decode cX12_act 9 = .ok (.iconst 0, 1) := by decide +kernel
theorem dX12_act_10 : decode cX12_act 10 = .ok (.istore_n 1, 1) := by decide +kernel
theorem dX12_act_11 : decode cX12_act 11 = .ok (.iload_n 1, 1) := by decide +kernel
theorem dX12_act_12 : decode cX12_act 12 = .ok (.sipush 3588, 3) := by decide +kernel
theorem dX12_act_15 : decode cX12_act 15 = .ok (.if_icmp .ge 24, 3) := by decide +kernel
theorem dX12_act_18 : decode cX12_act 18 = .ok (.aload_n 0, 1) := by decide +kernel
theorem dX12_act_19 : decode cX12_act 19 = .ok (.getfield 111, 3) := by decide +kernel
theorem dX12_act_22 : decode cX12_act 22 = .ok (.iload_n 1, 1) := by decide +kernel
theorem dX12_act_23 : decode cX12_act 23 = .ok (.aload_n 0, 1) := by decide +kernel
theorem dX12_act_24 : decode cX12_act 24 = .ok (.getfield 111, 3) := by decide +kernel
theorem dX12_act_27 : decode cX12_act 27 = .ok (.bipush 92, 2) := by decide +kernel
theorem dX12_act_29 : decode cX12_act 29 = .ok (.iload_n 1, 1) := by decide +kernel
theorem dX12_act_30 : decode cX12_act 30 = .ok (.iadd, 1) := by decide +kernel
theorem dX12_act_31 : decode cX12_act 31 = .ok (.iaload, 1) := by decide +kernel
theorem dX12_act_32 : decode cX12_act 32 = .ok (.iastore, 1) := by decide +kernel
theorem dX12_act_33 : decode cX12_act 33 = .ok (.iinc 1 1, 3) := by decide +kernel
theorem dX12_act_36 : decode cX12_act 36 = .ok (.goto (-25), 3) := by decide +kernel
theorem dX12_act_39 : decode cX12_act 39 = .ok (.aload_n 0, 1) := by decide +kernel
theorem dX12_act_40 : decode cX12_act 40 = .ok (.dup, 1) := by decide +kernel
theorem dX12_act_41 : decode cX12_act 41 = .ok (.getfield 414, 3) := by decide +kernel
theorem dX12_act_44 : decode cX12_act 44 = .ok (.iconst 1, 1) := by decide +kernel
theorem dX12_act_45 : decode cX12_act 45 = .ok (.isub, 1) := by decide +kernel
theorem dX12_act_46 : decode cX12_act 46 = .ok (.putfield 414, 3) := by decide +kernel
theorem dX12_act_49 : decode cX12_act 49 = .ok (.iconst 0, 1) := by decide +kernel
theorem dX12_act_50 : decode cX12_act 50 = .ok (.istore_n 1, 1) := by decide +kernel
theorem dX12_act_51 : decode cX12_act 51 = .ok (.iload_n 1, 1) := by decide +kernel
theorem dX12_act_52 : decode cX12_act 52 = .ok (.bipush 91, 2) := by decide +kernel
theorem dX12_act_54 : decode cX12_act 54 = .ok (.if_icmp .ge 29, 3) := by decide +kernel
theorem dX12_act_57 : decode cX12_act 57 = .ok (.aload_n 0, 1) := by decide +kernel
theorem dX12_act_58 : decode cX12_act 58 = .ok (.getfield 111, 3) := by decide +kernel
theorem dX12_act_61 : decode cX12_act 61 = .ok (.bipush 92, 2) := by decide +kernel
theorem dX12_act_63 : decode cX12_act 63 = .ok (.aload_n 0, 1) := by decide +kernel
theorem dX12_act_64 : decode cX12_act 64 = .ok (.getfield 414, 3) := by decide +kernel
theorem dX12_act_67 : decode cX12_act 67 = .ok (.imul, 1) := by decide +kernel
theorem dX12_act_68 : decode cX12_act 68 = .ok (.iload_n 1, 1) := by decide +kernel
theorem dX12_act_69 : decode cX12_act 69 = .ok (.iadd, 1) := by decide +kernel
theorem dX12_act_70 : decode cX12_act 70 = .ok (.aload_n 0, 1) := by decide +kernel
theorem dX12_act_71 : decode cX12_act 71 = .ok (.getfield 99, 3) := by decide +kernel
theorem dX12_act_74 : decode cX12_act 74 = .ok (.iload_n 1, 1) := by decide +kernel
theorem dX12_act_75 : decode cX12_act 75 = .ok (.iaload, 1) := by decide +kernel
theorem dX12_act_76 : decode cX12_act 76 = .ok (.iastore, 1) := by decide +kernel
theorem dX12_act_77 : decode cX12_act 77 = .ok (.iinc 1 1, 3) := by decide +kernel
theorem dX12_act_80 : decode cX12_act 80 = .ok (.goto (-29), 3) := by decide +kernel
theorem dX12_act_83 : decode cX12_act 83 = .ok (.aload_n 0, 1) := by decide +kernel
theorem dX12_act_84 : decode cX12_act 84 = .ok (.dup, 1) := by decide +kernel
theorem dX12_act_85 : decode cX12_act 85 = .ok (.getfield 414, 3) := by decide +kernel
theorem dX12_act_88 : decode cX12_act 88 = .ok (.iconst 1, 1) := by decide +kernel
theorem dX12_act_89 : decode cX12_act 89 = .ok (.iadd, 1) := by decide +kernel
theorem dX12_act_90 : decode cX12_act 90 = .ok (.putfield 414, 3) := by decide +kernel
theorem dX12_act_93 : decode cX12_act 93 = .ok (.aload_n 0, 1) := by decide +kernel
theorem dX12_act_94 : decode cX12_act 94 = .ok (.iconst 0, 1) := by decide +kernel
theorem dX12_act_95 : decode cX12_act 95 = .ok (.putfield 417, 3) := by decide +kernel
theorem dX12_act_98 : decode cX12_act 98 = .ok (.return_, 1) := by decide +kernel
theorem dX12_exchange_0 : decode cX12_exchange 0 = .ok (.iconst 0, 1) := by decide +kernel
theorem dX12_exchange_1 : decode cX12_exchange 1 = .ok (.istore_n 2, 1) := by decide +kernel
theorem dX12_exchange_2 : decode cX12_exchange 2 = .ok (.iload_n 2, 1) := by decide +kernel
theorem dX12_exchange_3 : decode cX12_exchange 3 = .ok (.bipush 91, 2) := by decide +kernel
theorem dX12_exchange_5 : decode cX12_exchange 5 = .ok (.if_icmp .ge 39, 3) := by decide +kernel
theorem dX12_exchange_8 : decode cX12_exchange 8 = .ok (.aload_n 0, 1) := by decide +kernel
theorem dX12_exchange_9 : decode cX12_exchange 9 = .ok (.getfield 111, 3) := by decide +kernel
theorem dX12_exchange_12 : decode cX12_exchange 12 = .ok (.iload_n 1, 1) := by decide +kernel
theorem dX12_exchange_13 : decode cX12_exchange 13 = .ok (.iload_n 2, 1) := by decide +kernel
theorem dX12_exchange_14 : decode cX12_exchange 14 = .ok (.iadd, 1) := by decide +kernel
theorem dX12_exchange_15 : decode cX12_exchange 15 = .ok (.iaload, 1) := by decide +kernel
theorem dX12_exchange_16 : decode cX12_exchange 16 = .ok (.istore_n 3, 1) := by decide +kernel
theorem dX12_exchange_17 : decode cX12_exchange 17 = .ok (.aload_n 0, 1) := by decide +kernel
theorem dX12_exchange_18 : decode cX12_exchange 18 = .ok (.getfield 111, 3) := by decide +kernel
theorem dX12_exchange_21 : decode cX12_exchange 21 = .ok (.iload_n 1, 1) := by decide +kernel
theorem dX12_exchange_22 : decode cX12_exchange 22 = .ok (.iload_n 2, 1) := by decide +kernel
theorem dX12_exchange_23 : decode cX12_exchange 23 = .ok (.iadd, 1) := by decide +kernel
theorem dX12_exchange_24 : decode cX12_exchange 24 = .ok (.aload_n 0, 1) := by decide +kernel
theorem dX12_exchange_25 : decode cX12_exchange 25 = .ok (.getfield 99, 3) := by decide +kernel
theorem dX12_exchange_28 : decode cX12_exchange 28 = .ok (.iload_n 2, 1) := by decide +kernel
theorem dX12_exchange_29 : decode cX12_exchange 29 = .ok (.iaload, 1) := by decide +kernel
theorem dX12_exchange_30 : decode cX12_exchange 30 = .ok (.iastore, 1) := by decide +kernel
theorem dX12_exchange_31 : decode cX12_exchange 31 = .ok (.aload_n 0, 1) := by decide +kernel
theorem dX12_exchange_32 : decode cX12_exchange 32 = .ok (.getfield 99, 3) := by decide +kernel
theorem dX12_exchange_35 : decode cX12_exchange 35 = .ok (.iload_n 2, 1) := by decide +kernel
theorem dX12_exchange_36 : decode cX12_exchange 36 = .ok (.iload_n 3, 1) := by decide +kernel
theorem dX12_exchange_37 : decode cX12_exchange 37 = .ok (.iastore, 1) := by decide +kernel
theorem dX12_exchange_38 : decode cX12_exchange 38 = .ok (.iinc 2 1, 3) := by decide +kernel
theorem dX12_exchange_41 : decode cX12_exchange 41 = .ok (.goto (-39), 3) := by decide +kernel
theorem dX12_exchange_44 : decode cX12_exchange 44 = .ok (.return_, 1) := by decide +kernel
theorem dX12_keep_0 : decode cX12_keep 0 = .ok (.iconst 0, 1) := by decide +kernel
theorem dX12_keep_1 : decode cX12_keep 1 = .ok (.istore_n 1, 1) := by decide +kernel
theorem dX12_keep_2 : decode cX12_keep 2 = .ok (.iload_n 1, 1) := by decide +kernel
theorem dX12_keep_3 : decode cX12_keep 3 = .ok (.bipush 91, 2) := by decide +kernel
theorem dX12_keep_5 : decode cX12_keep 5 = .ok (.if_icmp .ge 21, 3) := by decide +kernel
theorem dX12_keep_8 : decode cX12_keep 8 = .ok (.aload_n 0, 1) := by decide +kernel
theorem dX12_keep_9 : decode cX12_keep 9 = .ok (.getfield 99, 3) := by decide +kernel
theorem dX12_keep_12 : decode cX12_keep 12 = .ok (.iload_n 1, 1) := by decide +kernel
theorem dX12_keep_13 : decode cX12_keep 13 = .ok (.aload_n 0, 1) := by decide +kernel
theorem dX12_keep_14 : decode cX12_keep 14 = .ok (.getfield 102, 3) := by decide +kernel
theorem dX12_keep_17 : decode cX12_keep 17 = .ok (.iload_n 1, 1) := by decide +kernel
theorem dX12_keep_18 : decode cX12_keep 18 = .ok (.iaload, 1) := by decide +kernel
theorem dX12_keep_19 : decode cX12_keep 19 = .ok (.iastore, 1) := by decide +kernel
theorem dX12_keep_20 : decode cX12_keep 20 = .ok (.iinc 1 1, 3) := by decide +kernel
theorem dX12_keep_23 : decode cX12_keep 23 = .ok (.goto (-21), 3) := by decide +kernel
theorem dX12_keep_26 : decode cX12_keep 26 = .ok (.return_, 1) := by decide +kernel
theorem dX12_day_0 : decode cX12_day 0 = .ok (.aload_n 0, 1) := by decide +kernel
theorem dX12_day_1 : decode cX12_day 1 = .ok (.getfield 99, 3) := by decide +kernel
theorem dX12_day_4 : decode cX12_day 4 = .ok (.bipush 90, 2) := by decide +kernel
theorem dX12_day_6 : decode cX12_day 6 = .ok (.iaload, 1) := by decide +kernel
theorem dX12_day_7 : decode cX12_day 7 = .ok (.sipush 300, 3) := by decide +kernel
theorem dX12_day_10 : decode cX12_day 10 = .ok (.if_icmp .lt 5, 3) := by decide +kernel
theorem dX12_day_13 : decode cX12_day 13 = .ok (.iconst (-1), 1) := by decide +kernel
theorem dX12_day_14 : decode cX12_day 14 = .ok (.ireturn, 1) := by decide +kernel
theorem dX12_day_15 : decode cX12_day 15 = .ok (.aload_n 0, 1) := by decide +kernel
theorem dX12_day_16 : decode cX12_day 16 = .ok (.invokevirtual 514, 3) := by decide +kernel
theorem dX12_day_19 : decode cX12_day 19 = .ok (.aload_n 0, 1) := by decide +kernel
theorem dX12_day_20 : decode cX12_day 20 = .ok (.invokevirtual 496, 3) := by decide +kernel
theorem dX12_day_23 : decode cX12_day 23 = .ok (.aload_n 0, 1) := by decide +kernel
theorem dX12_day_24 : decode cX12_day 24 = .ok (.invokevirtual 517, 3) := by decide +kernel
theorem dX12_day_27 : decode cX12_day 27 = .ok (.istore_n 1, 1) := by decide +kernel
theorem dX12_day_28 : decode cX12_day 28 = .ok (.aload_n 0, 1) := by decide +kernel
theorem dX12_day_29 : decode cX12_day 29 = .ok (.invokevirtual 520, 3) := by decide +kernel
theorem dX12_day_32 : decode cX12_day 32 = .ok (.iload_n 1, 1) := by decide +kernel
theorem dX12_day_33 : decode cX12_day 33 = .ok (.ireturn, 1) := by decide +kernel
theorem dX12_post_0 : decode cX12_post 0 = .ok (.aload_n 0, 1) := by decide +kernel
theorem dX12_post_1 : decode cX12_post 1 = .ok (.iload_n 1, 1) := by decide +kernel
theorem dX12_post_2 : decode cX12_post 2 = .ok (.invokevirtual 502, 3) := by decide +kernel
theorem dX12_post_5 : decode cX12_post 5 = .ok (.ifCond .eq 28, 3) := by decide +kernel
theorem dX12_post_8 : decode cX12_post 8 = .ok (.aload_n 0, 1) := by decide +kernel
theorem dX12_post_9 : decode cX12_post 9 = .ok (.iload_n 2, 1) := by decide +kernel
theorem dX12_post_10 : decode cX12_post 10 = .ok (.invokevirtual 502, 3) := by decide +kernel
theorem dX12_post_13 : decode cX12_post 13 = .ok (.ifCond .eq 20, 3) := by decide +kernel
theorem dX12_post_16 : decode cX12_post 16 = .ok (.iload_n 1, 1) := by decide +kernel
theorem dX12_post_17 : decode cX12_post 17 = .ok (.iload_n 2, 1) := by decide +kernel
theorem dX12_post_18 : decode cX12_post 18 = .ok (.if_icmp .eq 15, 3) := by decide +kernel
theorem dX12_post_21 : decode cX12_post 21 = .ok (.aload_n 0, 1) := by decide +kernel
theorem dX12_post_22 : decode cX12_post 22 = .ok (.getfield 99, 3) := by decide +kernel
theorem dX12_post_25 : decode cX12_post 25 = .ok (.bipush 88, 2) := by decide +kernel
theorem dX12_post_27 : decode cX12_post 27 = .ok (.iaload, 1) := by decide +kernel
theorem dX12_post_28 : decode cX12_post 28 = .ok (.bipush 10, 2) := by decide +kernel
theorem dX12_post_30 : decode cX12_post 30 = .ok (.if_icmp .ne 5, 3) := by decide +kernel
theorem dX12_post_33 : decode cX12_post 33 = .ok (.iconst (-1), 1) := by decide +kernel
theorem dX12_post_34 : decode cX12_post 34 = .ok (.ireturn, 1) := by decide +kernel
theorem dX12_post_35 : decode cX12_post 35 = .ok (.aload_n 0, 1) := by decide +kernel
theorem dX12_post_36 : decode cX12_post 36 = .ok (.invokevirtual 514, 3) := by decide +kernel
theorem dX12_post_39 : decode cX12_post 39 = .ok (.aload_n 0, 1) := by decide +kernel
theorem dX12_post_40 : decode cX12_post 40 = .ok (.aload_n 0, 1) := by decide +kernel
theorem dX12_post_41 : decode cX12_post 41 = .ok (.getfield 99, 3) := by decide +kernel
theorem dX12_post_44 : decode cX12_post 44 = .ok (.bipush 88, 2) := by decide +kernel
theorem dX12_post_46 : decode cX12_post 46 = .ok (.iaload, 1) := by decide +kernel
theorem dX12_post_47 : decode cX12_post 47 = .ok (.iload_n 1, 1) := by decide +kernel
theorem dX12_post_48 : decode cX12_post 48 = .ok (.iload_n 2, 1) := by decide +kernel
theorem dX12_post_49 : decode cX12_post 49 = .ok (.sipush 200, 3) := by decide +kernel
theorem dX12_post_52 : decode cX12_post 52 = .ok (.iconst 1, 1) := by decide +kernel
theorem dX12_post_53 : decode cX12_post 53 = .ok (.invokevirtual 410, 3) := by decide +kernel
theorem dX12_post_56 : decode cX12_post 56 = .ok (.aload_n 0, 1) := by decide +kernel
theorem dX12_post_57 : decode cX12_post 57 = .ok (.getfield 99, 3) := by decide +kernel
theorem dX12_post_60 : decode cX12_post 60 = .ok (.bipush 88, 2) := by decide +kernel
theorem dX12_post_62 : decode cX12_post 62 = .ok (.dup2, 1) := by decide +kernel
theorem dX12_post_63 : decode cX12_post 63 = .ok (.iaload, 1) := by decide +kernel
theorem dX12_post_64 : decode cX12_post 64 = .ok (.iconst 1, 1) := by decide +kernel
theorem dX12_post_65 : decode cX12_post 65 = .ok (.iadd, 1) := by decide +kernel
theorem dX12_post_66 : decode cX12_post 66 = .ok (.iastore, 1) := by decide +kernel
theorem dX12_post_67 : decode cX12_post 67 = .ok (.aload_n 0, 1) := by decide +kernel
theorem dX12_post_68 : decode cX12_post 68 = .ok (.getfield 99, 3) := by decide +kernel
theorem dX12_post_71 : decode cX12_post 71 = .ok (.bipush 88, 2) := by decide +kernel
theorem dX12_post_73 : decode cX12_post 73 = .ok (.iaload, 1) := by decide +kernel
theorem dX12_post_74 : decode cX12_post 74 = .ok (.iconst 1, 1) := by decide +kernel
theorem dX12_post_75 : decode cX12_post 75 = .ok (.isub, 1) := by decide +kernel
theorem dX12_post_76 : decode cX12_post 76 = .ok (.ireturn, 1) := by decide +kernel
theorem dX12_hand_0 : decode cX12_hand 0 = .ok (.aload_n 0, 1) := by decide +kernel
theorem dX12_hand_1 : decode cX12_hand 1 = .ok (.iload_n 1, 1) := by decide +kernel
theorem dX12_hand_2 : decode cX12_hand 2 = .ok (.invokevirtual 499, 3) := by decide +kernel
theorem dX12_hand_5 : decode cX12_hand 5 = .ok (.ifCond .eq 23, 3) := by decide +kernel
theorem dX12_hand_8 : decode cX12_hand 8 = .ok (.aload_n 0, 1) := by decide +kernel
theorem dX12_hand_9 : decode cX12_hand 9 = .ok (.iload_n 2, 1) := by decide +kernel
theorem dX12_hand_10 : decode cX12_hand 10 = .ok (.invokevirtual 493, 3) := by decide +kernel
theorem dX12_hand_13 : decode cX12_hand 13 = .ok (.ifCond .eq 15, 3) := by decide +kernel
theorem dX12_hand_16 : decode cX12_hand 16 = .ok (.aload_n 0, 1) := by decide +kernel
theorem dX12_hand_17 : decode cX12_hand 17 = .ok (.getfield 99, 3) := by decide +kernel
theorem dX12_hand_20 : decode cX12_hand 20 = .ok (.bipush 18, 2) := by decide +kernel
theorem dX12_hand_22 : decode cX12_hand 22 = .ok (.iload_n 1, 1) := by decide +kernel
theorem dX12_hand_23 : decode cX12_hand 23 = .ok (.iadd, 1) := by decide +kernel
theorem dX12_hand_24 : decode cX12_hand 24 = .ok (.iaload, 1) := by decide +kernel
theorem dX12_hand_25 : decode cX12_hand 25 = .ok (.ifCond .ge 5, 3) := by decide +kernel
theorem dX12_hand_28 : decode cX12_hand 28 = .ok (.iconst 0, 1) := by decide +kernel
theorem dX12_hand_29 : decode cX12_hand 29 = .ok (.ireturn, 1) := by decide +kernel
theorem dX12_hand_30 : decode cX12_hand 30 = .ok (.aload_n 0, 1) := by decide +kernel
theorem dX12_hand_31 : decode cX12_hand 31 = .ok (.invokevirtual 496, 3) := by decide +kernel
theorem dX12_hand_34 : decode cX12_hand 34 = .ok (.aload_n 0, 1) := by decide +kernel
theorem dX12_hand_35 : decode cX12_hand 35 = .ok (.iload_n 2, 1) := by decide +kernel
theorem dX12_hand_36 : decode cX12_hand 36 = .ok (.aload_n 0, 1) := by decide +kernel
theorem dX12_hand_37 : decode cX12_hand 37 = .ok (.getfield 102, 3) := by decide +kernel
theorem dX12_hand_40 : decode cX12_hand 40 = .ok (.bipush 18, 2) := by decide +kernel
theorem dX12_hand_42 : decode cX12_hand 42 = .ok (.iload_n 1, 1) := by decide +kernel
theorem dX12_hand_43 : decode cX12_hand 43 = .ok (.iadd, 1) := by decide +kernel
theorem dX12_hand_44 : decode cX12_hand 44 = .ok (.iaload, 1) := by decide +kernel
theorem dX12_hand_45 : decode cX12_hand 45 = .ok (.invokevirtual 469, 3) := by decide +kernel
theorem dX12_hand_48 : decode cX12_hand 48 = .ok (.ifCond .eq 17, 3) := by decide +kernel
theorem dX12_hand_51 : decode cX12_hand 51 = .ok (.aload_n 0, 1) := by decide +kernel
theorem dX12_hand_52 : decode cX12_hand 52 = .ok (.iload_n 2, 1) := by decide +kernel
theorem dX12_hand_53 : decode cX12_hand 53 = .ok (.invokevirtual 472, 3) := by decide +kernel
theorem dX12_hand_56 : decode cX12_hand 56 = .ok (.aload_n 0, 1) := by decide +kernel
theorem dX12_hand_57 : decode cX12_hand 57 = .ok (.getfield 81, 3) := by decide +kernel
theorem dX12_hand_60 : decode cX12_hand 60 = .ok (.iload_n 2, 1) := by decide +kernel
theorem dX12_hand_61 : decode cX12_hand 61 = .ok (.iaload, 1) := by decide +kernel
theorem dX12_hand_62 : decode cX12_hand 62 = .ok (.if_icmp .ne 5, 3) := by decide +kernel
theorem dX12_hand_65 : decode cX12_hand 65 = .ok (.iconst 0, 1) := by decide +kernel
theorem dX12_hand_66 : decode cX12_hand 66 = .ok (.ireturn, 1) := by decide +kernel
theorem dX12_hand_67 : decode cX12_hand 67 = .ok (.aload_n 0, 1) := by decide +kernel
theorem dX12_hand_68 : decode cX12_hand 68 = .ok (.invokevirtual 514, 3) := by decide +kernel
theorem dX12_hand_71 : decode cX12_hand 71 = .ok (.aload_n 0, 1) := by decide +kernel
theorem dX12_hand_72 : decode cX12_hand 72 = .ok (.iload_n 1, 1) := by decide +kernel
theorem dX12_hand_73 : decode cX12_hand 73 = .ok (.iload_n 2, 1) := by decide +kernel
theorem dX12_hand_74 : decode cX12_hand 74 = .ok (.invokevirtual 475, 3) := by decide +kernel
theorem dX12_hand_77 : decode cX12_hand 77 = .ok (.aload_n 0, 1) := by decide +kernel
theorem dX12_hand_78 : decode cX12_hand 78 = .ok (.invokevirtual 520, 3) := by decide +kernel
theorem dX12_hand_81 : decode cX12_hand 81 = .ok (.iconst 1, 1) := by decide +kernel
theorem dX12_hand_82 : decode cX12_hand 82 = .ok (.ireturn, 1) := by decide +kernel
theorem dX12_take_0 : decode cX12_take 0 = .ok (.aload_n 0, 1) := by decide +kernel
theorem dX12_take_1 : decode cX12_take 1 = .ok (.iload_n 1, 1) := by decide +kernel
theorem dX12_take_2 : decode cX12_take 2 = .ok (.invokevirtual 499, 3) := by decide +kernel
theorem dX12_take_5 : decode cX12_take 5 = .ok (.ifCond .eq 33, 3) := by decide +kernel
theorem dX12_take_8 : decode cX12_take 8 = .ok (.aload_n 0, 1) := by decide +kernel
theorem dX12_take_9 : decode cX12_take 9 = .ok (.getfield 99, 3) := by decide +kernel
theorem dX12_take_12 : decode cX12_take 12 = .ok (.bipush 28, 2) := by decide +kernel
theorem dX12_take_14 : decode cX12_take 14 = .ok (.iload_n 1, 1) := by decide +kernel
theorem dX12_take_15 : decode cX12_take 15 = .ok (.iadd, 1) := by decide +kernel
theorem dX12_take_16 : decode cX12_take 16 = .ok (.iaload, 1) := by decide +kernel
theorem dX12_take_17 : decode cX12_take 17 = .ok (.ifCond .lt 21, 3) := by decide +kernel
theorem dX12_take_20 : decode cX12_take 20 = .ok (.aload_n 0, 1) := by decide +kernel
theorem dX12_take_21 : decode cX12_take 21 = .ok (.getfield 99, 3) := by decide +kernel
theorem dX12_take_24 : decode cX12_take 24 = .ok (.aload_n 0, 1) := by decide +kernel
theorem dX12_take_25 : decode cX12_take 25 = .ok (.getfield 99, 3) := by decide +kernel
theorem dX12_take_28 : decode cX12_take 28 = .ok (.bipush 28, 2) := by decide +kernel
theorem dX12_take_30 : decode cX12_take 30 = .ok (.iload_n 1, 1) := by decide +kernel
theorem dX12_take_31 : decode cX12_take 31 = .ok (.iadd, 1) := by decide +kernel
theorem dX12_take_32 : decode cX12_take 32 = .ok (.iaload, 1) := by decide +kernel
theorem dX12_take_33 : decode cX12_take 33 = .ok (.iaload, 1) := by decide +kernel
theorem dX12_take_34 : decode cX12_take 34 = .ok (.iconst 1, 1) := by decide +kernel
theorem dX12_take_35 : decode cX12_take 35 = .ok (.if_icmp .eq 5, 3) := by decide +kernel
theorem dX12_take_38 : decode cX12_take 38 = .ok (.iconst (-1), 1) := by decide +kernel
theorem dX12_take_39 : decode cX12_take 39 = .ok (.ireturn, 1) := by decide +kernel
theorem dX12_take_40 : decode cX12_take 40 = .ok (.aload_n 0, 1) := by decide +kernel
theorem dX12_take_41 : decode cX12_take 41 = .ok (.invokevirtual 514, 3) := by decide +kernel
theorem dX12_take_44 : decode cX12_take 44 = .ok (.aload_n 0, 1) := by decide +kernel
theorem dX12_take_45 : decode cX12_take 45 = .ok (.getfield 99, 3) := by decide +kernel
theorem dX12_take_48 : decode cX12_take 48 = .ok (.bipush 28, 2) := by decide +kernel
theorem dX12_take_50 : decode cX12_take 50 = .ok (.iload_n 1, 1) := by decide +kernel
theorem dX12_take_51 : decode cX12_take 51 = .ok (.iadd, 1) := by decide +kernel
theorem dX12_take_52 : decode cX12_take 52 = .ok (.iaload, 1) := by decide +kernel
theorem dX12_take_53 : decode cX12_take 53 = .ok (.istore_n 2, 1) := by decide +kernel
theorem dX12_take_54 : decode cX12_take 54 = .ok (.aload_n 0, 1) := by decide +kernel
theorem dX12_take_55 : decode cX12_take 55 = .ok (.getfield 99, 3) := by decide +kernel
theorem dX12_take_58 : decode cX12_take 58 = .ok (.bipush 28, 2) := by decide +kernel
theorem dX12_take_60 : decode cX12_take 60 = .ok (.iload_n 1, 1) := by decide +kernel
theorem dX12_take_61 : decode cX12_take 61 = .ok (.iadd, 1) := by decide +kernel
theorem dX12_take_62 : decode cX12_take 62 = .ok (.iconst (-1), 1) := by decide +kernel
theorem dX12_take_63 : decode cX12_take 63 = .ok (.iastore, 1) := by decide +kernel
theorem dX12_take_64 : decode cX12_take 64 = .ok (.aload_n 0, 1) := by decide +kernel
theorem dX12_take_65 : decode cX12_take 65 = .ok (.getfield 99, 3) := by decide +kernel
theorem dX12_take_68 : decode cX12_take 68 = .ok (.bipush 18, 2) := by decide +kernel
theorem dX12_take_70 : decode cX12_take 70 = .ok (.iload_n 1, 1) := by decide +kernel
theorem dX12_take_71 : decode cX12_take 71 = .ok (.iadd, 1) := by decide +kernel
theorem dX12_take_72 : decode cX12_take 72 = .ok (.aload_n 0, 1) := by decide +kernel
theorem dX12_take_73 : decode cX12_take 73 = .ok (.getfield 99, 3) := by decide +kernel
theorem dX12_take_76 : decode cX12_take 76 = .ok (.bipush 6, 2) := by decide +kernel
theorem dX12_take_78 : decode cX12_take 78 = .ok (.iload_n 2, 1) := by decide +kernel
theorem dX12_take_79 : decode cX12_take 79 = .ok (.iadd, 1) := by decide +kernel
theorem dX12_take_80 : decode cX12_take 80 = .ok (.iaload, 1) := by decide +kernel
theorem dX12_take_81 : decode cX12_take 81 = .ok (.iastore, 1) := by decide +kernel
theorem dX12_take_82 : decode cX12_take 82 = .ok (.iload_n 2, 1) := by decide +kernel
theorem dX12_take_83 : decode cX12_take 83 = .ok (.ireturn, 1) := by decide +kernel
theorem dX12_close_0 : decode cX12_close 0 = .ok (.iload_n 1, 1) := by decide +kernel
theorem dX12_close_1 : decode cX12_close 1 = .ok (.iconst 0, 1) := by decide +kernel
theorem dX12_close_2 : decode cX12_close 2 = .ok (.aload_n 0, 1) := by decide +kernel
theorem dX12_close_3 : decode cX12_close 3 = .ok (.getfield 398, 3) := by decide +kernel
theorem dX12_close_6 : decode cX12_close 6 = .ok (.iconst 1, 1) := by decide +kernel
theorem dX12_close_7 : decode cX12_close 7 = .ok (.isub, 1) := by decide +kernel
theorem dX12_close_8 : decode cX12_close 8 = .ok (.invokestatic 426, 3) := by decide +kernel
theorem dX12_close_11 : decode cX12_close 11 = .ok (.ifCond .ne 5, 3) := by decide +kernel
theorem dX12_close_14 : decode cX12_close 14 = .ok (.iconst (-1), 1) := by decide +kernel
theorem dX12_close_15 : decode cX12_close 15 = .ok (.ireturn, 1) := by decide +kernel
theorem dX12_close_16 : decode cX12_close 16 = .ok (.aload_n 0, 1) := by decide +kernel
theorem dX12_close_17 : decode cX12_close 17 = .ok (.invokevirtual 514, 3) := by decide +kernel
theorem dX12_close_20 : decode cX12_close 20 = .ok (.aload_n 0, 1) := by decide +kernel
theorem dX12_close_21 : decode cX12_close 21 = .ok (.getfield 99, 3) := by decide +kernel
theorem dX12_close_24 : decode cX12_close 24 = .ok (.bipush 89, 2) := by decide +kernel
theorem dX12_close_26 : decode cX12_close 26 = .ok (.dup2, 1) := by decide +kernel
theorem dX12_close_27 : decode cX12_close 27 = .ok (.iaload, 1) := by decide +kernel
theorem dX12_close_28 : decode cX12_close 28 = .ok (.iconst 1, 1) := by decide +kernel
theorem dX12_close_29 : decode cX12_close 29 = .ok (.iload_n 1, 1) := by decide +kernel
theorem dX12_close_30 : decode cX12_close 30 = .ok (.ishl, 1) := by decide +kernel
theorem dX12_close_31 : decode cX12_close 31 = .ok (.ixor, 1) := by decide +kernel
theorem dX12_close_32 : decode cX12_close 32 = .ok (.iastore, 1) := by decide +kernel
theorem dX12_close_33 : decode cX12_close 33 = .ok (.aload_n 0, 1) := by decide +kernel
theorem dX12_close_34 : decode cX12_close 34 = .ok (.getfield 99, 3) := by decide +kernel
theorem dX12_close_37 : decode cX12_close 37 = .ok (.bipush 89, 2) := by decide +kernel
theorem dX12_close_39 : decode cX12_close 39 = .ok (.iaload, 1) := by decide +kernel
theorem dX12_close_40 : decode cX12_close 40 = .ok (.iload_n 1, 1) := by decide +kernel
theorem dX12_close_41 : decode cX12_close 41 = .ok (.ishr, 1) := by decide +kernel
theorem dX12_close_42 : decode cX12_close 42 = .ok (.iconst 1, 1) := by decide +kernel
theorem dX12_close_43 : decode cX12_close 43 = .ok (.iand, 1) := by decide +kernel
theorem dX12_close_44 : decode cX12_close 44 = .ok (.ireturn, 1) := by decide +kernel
theorem dX12_undo_0 : decode cX12_undo 0 = .ok (.aload_n 0, 1) := by decide +kernel
theorem dX12_undo_1 : decode cX12_undo 1 = .ok (.getfield 414, 3) := by decide +kernel
theorem dX12_undo_4 : decode cX12_undo 4 = .ok (.ifCond .ne 5, 3) := by decide +kernel
theorem dX12_undo_7 : decode cX12_undo 7 = .ok (.iconst 0, 1) := by decide +kernel
theorem dX12_undo_8 : decode cX12_undo 8 = .ok (.ireturn, 1) := by decide +kernel
theorem dX12_undo_9 : decode cX12_undo 9 = .ok (.aload_n 0, 1) := by decide +kernel
theorem dX12_undo_10 : decode cX12_undo 10 = .ok (.dup, 1) := by decide +kernel
theorem dX12_undo_11 : decode cX12_undo 11 = .ok (.getfield 414, 3) := by decide +kernel
theorem dX12_undo_14 : decode cX12_undo 14 = .ok (.iconst 1, 1) := by decide +kernel
theorem dX12_undo_15 : decode cX12_undo 15 = .ok (.isub, 1) := by decide +kernel
theorem dX12_undo_16 : decode cX12_undo 16 = .ok (.putfield 414, 3) := by decide +kernel
theorem dX12_undo_19 : decode cX12_undo 19 = .ok (.aload_n 0, 1) := by decide +kernel
theorem dX12_undo_20 : decode cX12_undo 20 = .ok (.dup, 1) := by decide +kernel
theorem dX12_undo_21 : decode cX12_undo 21 = .ok (.getfield 417, 3) := by decide +kernel
theorem dX12_undo_24 : decode cX12_undo 24 = .ok (.iconst 1, 1) := by decide +kernel
theorem dX12_undo_25 : decode cX12_undo 25 = .ok (.iadd, 1) := by decide +kernel
theorem dX12_undo_26 : decode cX12_undo 26 = .ok (.putfield 417, 3) := by decide +kernel
theorem dX12_undo_29 : decode cX12_undo 29 = .ok (.aload_n 0, 1) := by decide +kernel
theorem dX12_undo_30 : decode cX12_undo 30 = .ok (.bipush 92, 2) := by decide +kernel
theorem dX12_undo_32 : decode cX12_undo 32 = .ok (.aload_n 0, 1) := by decide +kernel
theorem dX12_undo_33 : decode cX12_undo 33 = .ok (.getfield 414, 3) := by decide +kernel
theorem dX12_undo_36 : decode cX12_undo 36 = .ok (.imul, 1) := by decide +kernel
theorem dX12_undo_37 : decode cX12_undo 37 = .ok (.invokevirtual 523, 3) := by decide +kernel
theorem dX12_undo_40 : decode cX12_undo 40 = .ok (.iconst 1, 1) := by decide +kernel
theorem dX12_undo_41 : decode cX12_undo 41 = .ok (.ireturn, 1) := by decide +kernel
theorem dX12_redo_0 : decode cX12_redo 0 = .ok (.aload_n 0, 1) := by decide +kernel
theorem dX12_redo_1 : decode cX12_redo 1 = .ok (.getfield 417, 3) := by decide +kernel
theorem dX12_redo_4 : decode cX12_redo 4 = .ok (.ifCond .ne 5, 3) := by decide +kernel
theorem dX12_redo_7 : decode cX12_redo 7 = .ok (.iconst 0, 1) := by decide +kernel
theorem dX12_redo_8 : decode cX12_redo 8 = .ok (.ireturn, 1) := by decide +kernel
theorem dX12_redo_9 : decode cX12_redo 9 = .ok (.aload_n 0, 1) := by decide +kernel
theorem dX12_redo_10 : decode cX12_redo 10 = .ok (.bipush 92, 2) := by decide +kernel
theorem dX12_redo_12 : decode cX12_redo 12 = .ok (.aload_n 0, 1) := by decide +kernel
theorem dX12_redo_13 : decode cX12_redo 13 = .ok (.getfield 414, 3) := by decide +kernel
theorem dX12_redo_16 : decode cX12_redo 16 = .ok (.imul, 1) := by decide +kernel
theorem dX12_redo_17 : decode cX12_redo 17 = .ok (.invokevirtual 523, 3) := by decide +kernel
theorem dX12_redo_20 : decode cX12_redo 20 = .ok (.aload_n 0, 1) := by decide +kernel
theorem dX12_redo_21 : decode cX12_redo 21 = .ok (.dup, 1) := by decide +kernel
theorem dX12_redo_22 : decode cX12_redo 22 = .ok (.getfield 414, 3) := by decide +kernel
theorem dX12_redo_25 : decode cX12_redo 25 = .ok (.iconst 1, 1) := by decide +kernel
theorem dX12_redo_26 : decode cX12_redo 26 = .ok (.iadd, 1) := by decide +kernel
theorem dX12_redo_27 : decode cX12_redo 27 = .ok (.putfield 414, 3) := by decide +kernel
theorem dX12_redo_30 : decode cX12_redo 30 = .ok (.aload_n 0, 1) := by decide +kernel
theorem dX12_redo_31 : decode cX12_redo 31 = .ok (.dup, 1) := by decide +kernel
theorem dX12_redo_32 : decode cX12_redo 32 = .ok (.getfield 417, 3) := by decide +kernel
theorem dX12_redo_35 : decode cX12_redo 35 = .ok (.iconst 1, 1) := by decide +kernel
theorem dX12_redo_36 : decode cX12_redo 36 = .ok (.isub, 1) := by decide +kernel
theorem dX12_redo_37 : decode cX12_redo 37 = .ok (.putfield 417, 3) := by decide +kernel
theorem dX12_redo_40 : decode cX12_redo 40 = .ok (.iconst 1, 1) := by decide +kernel
theorem dX12_redo_41 : decode cX12_redo 41 = .ok (.ireturn, 1) := by decide +kernel
theorem dX12_goToEnd_0 : decode cX12_goToEnd 0 = .ok (.aload_n 0, 1) := by decide +kernel
theorem dX12_goToEnd_1 : decode cX12_goToEnd 1 = .ok (.invokevirtual 496, 3) := by decide +kernel
theorem dX12_goToEnd_4 : decode cX12_goToEnd 4 = .ok (.aload_n 0, 1) := by decide +kernel
theorem dX12_goToEnd_5 : decode cX12_goToEnd 5 = .ok (.getfield 102, 3) := by decide +kernel
theorem dX12_goToEnd_8 : decode cX12_goToEnd 8 = .ok (.bipush 90, 2) := by decide +kernel
theorem dX12_goToEnd_10 : decode cX12_goToEnd 10 = .ok (.iaload, 1) := by decide +kernel
theorem dX12_goToEnd_11 : decode cX12_goToEnd 11 = .ok (.sipush 300, 3) := by decide +kernel
theorem dX12_goToEnd_14 : decode cX12_goToEnd 14 = .ok (.if_icmp .ge 11, 3) := by decide +kernel
theorem dX12_goToEnd_17 : decode cX12_goToEnd 17 = .ok (.aload_n 0, 1) := by decide +kernel
theorem dX12_goToEnd_18 : decode cX12_goToEnd 18 = .ok (.invokevirtual 517, 3) := by decide +kernel
theorem dX12_goToEnd_21 : decode cX12_goToEnd 21 = .ok (.pop, 1) := by decide +kernel
theorem dX12_goToEnd_22 : decode cX12_goToEnd 22 = .ok (.goto (-18), 3) := by decide +kernel
theorem dX12_goToEnd_25 : decode cX12_goToEnd 25 = .ok (.return_, 1) := by decide +kernel
theorem dX12_comes_0 : decode cX12_comes 0 = .ok (.aload_n 0, 1) := by decide +kernel
theorem dX12_comes_1 : decode cX12_comes 1 = .ok (.iload_n 1, 1) := by decide +kernel
theorem dX12_comes_2 : decode cX12_comes 2 = .ok (.invokevirtual 499, 3) := by decide +kernel
theorem dX12_comes_5 : decode cX12_comes 5 = .ok (.ifCond .ne 5, 3) := by decide +kernel
theorem dX12_comes_8 : decode cX12_comes 8 = .ok (.iconst (-1), 1) := by decide +kernel
theorem dX12_comes_9 : decode cX12_comes 9 = .ok (.ireturn, 1) := by decide +kernel
theorem dX12_comes_10 : decode cX12_comes 10 = .ok (.aload_n 0, 1) := by decide +kernel
theorem dX12_comes_11 : decode cX12_comes 11 = .ok (.invokevirtual 526, 3) := by decide +kernel
theorem dX12_comes_14 : decode cX12_comes 14 = .ok (.aload_n 0, 1) := by decide +kernel
theorem dX12_comes_15 : decode cX12_comes 15 = .ok (.getfield 102, 3) := by decide +kernel
theorem dX12_comes_18 : decode cX12_comes 18 = .ok (.bipush 38, 2) := by decide +kernel
theorem dX12_comes_20 : decode cX12_comes 20 = .ok (.iload_n 1, 1) := by decide +kernel
theorem dX12_comes_21 : decode cX12_comes 21 = .ok (.iadd, 1) := by decide +kernel
theorem dX12_comes_22 : decode cX12_comes 22 = .ok (.iaload, 1) := by decide +kernel
theorem dX12_comes_23 : decode cX12_comes 23 = .ok (.ireturn, 1) := by decide +kernel
theorem dX12_isInTime_0 : decode cX12_isInTime 0 = .ok (.aload_n 0, 1) := by decide +kernel
theorem dX12_isInTime_1 : decode cX12_isInTime 1 = .ok (.getfield 102, 3) := by decide +kernel
theorem dX12_isInTime_4 : decode cX12_isInTime 4 = .ok (.bipush 38, 2) := by decide +kernel
theorem dX12_isInTime_6 : decode cX12_isInTime 6 = .ok (.iload_n 1, 1) := by decide +kernel
theorem dX12_isInTime_7 : decode cX12_isInTime 7 = .ok (.iadd, 1) := by decide +kernel
theorem dX12_isInTime_8 : decode cX12_isInTime 8 = .ok (.iaload, 1) := by decide +kernel
theorem dX12_isInTime_9 : decode cX12_isInTime 9 = .ok (.ifCond .lt 28, 3) := by decide +kernel
theorem dX12_isInTime_12 : decode cX12_isInTime 12 = .ok (.aload_n 0, 1) := by decide +kernel
theorem dX12_isInTime_13 : decode cX12_isInTime 13 = .ok (.getfield 102, 3) := by decide +kernel
theorem dX12_isInTime_16 : decode cX12_isInTime 16 = .ok (.bipush 38, 2) := by decide +kernel
theorem dX12_isInTime_18 : decode cX12_isInTime 18 = .ok (.iload_n 1, 1) := by decide +kernel
theorem dX12_isInTime_19 : decode cX12_isInTime 19 = .ok (.iadd, 1) := by decide +kernel
theorem dX12_isInTime_20 : decode cX12_isInTime 20 = .ok (.iaload, 1) := by decide +kernel
theorem dX12_isInTime_21 : decode cX12_isInTime 21 = .ok (.aload_n 0, 1) := by decide +kernel
theorem dX12_isInTime_22 : decode cX12_isInTime 22 = .ok (.getfield 102, 3) := by decide +kernel
theorem dX12_isInTime_25 : decode cX12_isInTime 25 = .ok (.bipush 68, 2) := by decide +kernel
theorem dX12_isInTime_27 : decode cX12_isInTime 27 = .ok (.iload_n 1, 1) := by decide +kernel
theorem dX12_isInTime_28 : decode cX12_isInTime 28 = .ok (.iadd, 1) := by decide +kernel
theorem dX12_isInTime_29 : decode cX12_isInTime 29 = .ok (.iaload, 1) := by decide +kernel
theorem dX12_isInTime_30 : decode cX12_isInTime 30 = .ok (.if_icmp .gt 7, 3) := by decide +kernel
theorem dX12_isInTime_33 : decode cX12_isInTime 33 = .ok (.iconst 1, 1) := by decide +kernel
theorem dX12_isInTime_34 : decode cX12_isInTime 34 = .ok (.goto 4, 3) := by decide +kernel
theorem dX12_isInTime_37 : decode cX12_isInTime 37 = .ok (.iconst 0, 1) := by decide +kernel
theorem dX12_isInTime_38 : decode cX12_isInTime 38 = .ok (.ireturn, 1) := by decide +kernel
theorem dX12_late_0 : decode cX12_late 0 = .ok (.aload_n 0, 1) := by decide +kernel
theorem dX12_late_1 : decode cX12_late 1 = .ok (.invokevirtual 526, 3) := by decide +kernel
theorem dX12_late_4 : decode cX12_late 4 = .ok (.iconst 0, 1) := by decide +kernel
theorem dX12_late_5 : decode cX12_late 5 = .ok (.istore_n 1, 1) := by decide +kernel
theorem dX12_late_6 : decode cX12_late 6 = .ok (.iconst 0, 1) := by decide +kernel
theorem dX12_late_7 : decode cX12_late 7 = .ok (.istore_n 2, 1) := by decide +kernel
theorem dX12_late_8 : decode cX12_late 8 = .ok (.iload_n 2, 1) := by decide +kernel
theorem dX12_late_9 : decode cX12_late 9 = .ok (.aload_n 0, 1) := by decide +kernel
theorem dX12_late_10 : decode cX12_late 10 = .ok (.getfield 102, 3) := by decide +kernel
theorem dX12_late_13 : decode cX12_late 13 = .ok (.bipush 88, 2) := by decide +kernel
theorem dX12_late_15 : decode cX12_late 15 = .ok (.iaload, 1) := by decide +kernel
theorem dX12_late_16 : decode cX12_late 16 = .ok (.if_icmp .ge 30, 3) := by decide +kernel
theorem dX12_late_19 : decode cX12_late 19 = .ok (.iload_n 1, 1) := by decide +kernel
theorem dX12_late_20 : decode cX12_late 20 = .ok (.aload_n 0, 1) := by decide +kernel
theorem dX12_late_21 : decode cX12_late 21 = .ok (.iload_n 2, 1) := by decide +kernel
theorem dX12_late_22 : decode cX12_late 22 = .ok (.invokevirtual 529, 3) := by decide +kernel
theorem dX12_late_25 : decode cX12_late 25 = .ok (.ifCond .ne 7, 3) := by decide +kernel
theorem dX12_late_28 : decode cX12_late 28 = .ok (.iconst 1, 1) := by decide +kernel
theorem dX12_late_29 : decode cX12_late 29 = .ok (.goto 4, 3) := by decide +kernel
theorem dX12_late_32 : decode cX12_late 32 = .ok (.iconst 0, 1) := by decide +kernel
theorem dX12_late_33 : decode cX12_late 33 = .ok (.invokestatic 317, 3) := by decide +kernel
theorem dX12_late_36 : decode cX12_late 36 = .ok (.iload_n 2, 1) := by decide +kernel
theorem dX12_late_37 : decode cX12_late 37 = .ok (.ishl, 1) := by decide +kernel
theorem dX12_late_38 : decode cX12_late 38 = .ok (.ior, 1) := by decide +kernel
theorem dX12_late_39 : decode cX12_late 39 = .ok (.istore_n 1, 1) := by decide +kernel
theorem dX12_late_40 : decode cX12_late 40 = .ok (.iinc 2 1, 3) := by decide +kernel
theorem dX12_late_43 : decode cX12_late 43 = .ok (.goto (-35), 3) := by decide +kernel
theorem dX12_late_46 : decode cX12_late 46 = .ok (.iload_n 1, 1) := by decide +kernel
theorem dX12_late_47 : decode cX12_late 47 = .ok (.ireturn, 1) := by decide +kernel
theorem dX12_worth_0 : decode cX12_worth 0 = .ok (.aload_n 0, 1) := by decide +kernel
theorem dX12_worth_1 : decode cX12_worth 1 = .ok (.invokevirtual 526, 3) := by decide +kernel
theorem dX12_worth_4 : decode cX12_worth 4 = .ok (.iconst 0, 1) := by decide +kernel
theorem dX12_worth_5 : decode cX12_worth 5 = .ok (.istore_n 1, 1) := by decide +kernel
theorem dX12_worth_6 : decode cX12_worth 6 = .ok (.iconst 0, 1) := by decide +kernel
theorem dX12_worth_7 : decode cX12_worth 7 = .ok (.istore_n 2, 1) := by decide +kernel
theorem dX12_worth_8 : decode cX12_worth 8 = .ok (.iload_n 2, 1) := by decide +kernel
theorem dX12_worth_9 : decode cX12_worth 9 = .ok (.aload_n 0, 1) := by decide +kernel
theorem dX12_worth_10 : decode cX12_worth 10 = .ok (.getfield 102, 3) := by decide +kernel
theorem dX12_worth_13 : decode cX12_worth 13 = .ok (.bipush 88, 2) := by decide +kernel
theorem dX12_worth_15 : decode cX12_worth 15 = .ok (.iaload, 1) := by decide +kernel
theorem dX12_worth_16 : decode cX12_worth 16 = .ok (.if_icmp .ge 33, 3) := by decide +kernel
theorem dX12_worth_19 : decode cX12_worth 19 = .ok (.iload_n 1, 1) := by decide +kernel
theorem dX12_worth_20 : decode cX12_worth 20 = .ok (.aload_n 0, 1) := by decide +kernel
theorem dX12_worth_21 : decode cX12_worth 21 = .ok (.iload_n 2, 1) := by decide +kernel
theorem dX12_worth_22 : decode cX12_worth 22 = .ok (.invokevirtual 529, 3) := by decide +kernel
theorem dX12_worth_25 : decode cX12_worth 25 = .ok (.ifCond .eq 15, 3) := by decide +kernel
theorem dX12_worth_28 : decode cX12_worth 28 = .ok (.aload_n 0, 1) := by decide +kernel
theorem dX12_worth_29 : decode cX12_worth 29 = .ok (.getfield 102, 3) := by decide +kernel
theorem dX12_worth_32 : decode cX12_worth 32 = .ok (.bipush 78, 2) := by decide +kernel
theorem dX12_worth_34 : decode cX12_worth 34 = .ok (.iload_n 2, 1) := by decide +kernel
theorem dX12_worth_35 : decode cX12_worth 35 = .ok (.iadd, 1) := by decide +kernel
theorem dX12_worth_36 : decode cX12_worth 36 = .ok (.iaload, 1) := by decide +kernel
theorem dX12_worth_37 : decode cX12_worth 37 = .ok (.goto 4, 3) := by decide +kernel
theorem dX12_worth_40 : decode cX12_worth 40 = .ok (.iconst 0, 1) := by decide +kernel
theorem dX12_worth_41 : decode cX12_worth 41 = .ok (.iadd, 1) := by decide +kernel
theorem dX12_worth_42 : decode cX12_worth 42 = .ok (.istore_n 1, 1) := by decide +kernel
theorem dX12_worth_43 : decode cX12_worth 43 = .ok (.iinc 2 1, 3) := by decide +kernel
theorem dX12_worth_46 : decode cX12_worth 46 = .ok (.goto (-38), 3) := by decide +kernel
theorem dX12_worth_49 : decode cX12_worth 49 = .ok (.iload_n 1, 1) := by decide +kernel
theorem dX12_worth_50 : decode cX12_worth 50 = .ok (.ireturn, 1) := by decide +kernel
theorem dX12_stuck_0 : decode cX12_stuck 0 = .ok (.aload_n 0, 1) := by decide +kernel
theorem dX12_stuck_1 : decode cX12_stuck 1 = .ok (.invokevirtual 526, 3) := by decide +kernel
theorem dX12_stuck_4 : decode cX12_stuck 4 = .ok (.iconst 0, 1) := by decide +kernel
theorem dX12_stuck_5 : decode cX12_stuck 5 = .ok (.istore_n 1, 1) := by decide +kernel
theorem dX12_stuck_6 : decode cX12_stuck 6 = .ok (.iconst 0, 1) := by decide +kernel
theorem dX12_stuck_7 : decode cX12_stuck 7 = .ok (.istore_n 2, 1) := by decide +kernel
theorem dX12_stuck_8 : decode cX12_stuck 8 = .ok (.iload_n 2, 1) := by decide +kernel
theorem dX12_stuck_9 : decode cX12_stuck 9 = .ok (.aload_n 0, 1) := by decide +kernel
theorem dX12_stuck_10 : decode cX12_stuck 10 = .ok (.getfield 102, 3) := by decide +kernel
theorem dX12_stuck_13 : decode cX12_stuck 13 = .ok (.bipush 88, 2) := by decide +kernel
theorem dX12_stuck_15 : decode cX12_stuck 15 = .ok (.iaload, 1) := by decide +kernel
theorem dX12_stuck_16 : decode cX12_stuck 16 = .ok (.if_icmp .ge 76, 3) := by decide +kernel
theorem dX12_stuck_19 : decode cX12_stuck 19 = .ok (.iload_n 1, 1) := by decide +kernel
theorem dX12_stuck_20 : decode cX12_stuck 20 = .ok (.aload_n 0, 1) := by decide +kernel
theorem dX12_stuck_21 : decode cX12_stuck 21 = .ok (.getfield 99, 3) := by decide +kernel
theorem dX12_stuck_24 : decode cX12_stuck 24 = .ok (.bipush 18, 2) := by decide +kernel
theorem dX12_stuck_26 : decode cX12_stuck 26 = .ok (.iload_n 2, 1) := by decide +kernel
theorem dX12_stuck_27 : decode cX12_stuck 27 = .ok (.iadd, 1) := by decide +kernel
theorem dX12_stuck_28 : decode cX12_stuck 28 = .ok (.iaload, 1) := by decide +kernel
theorem dX12_stuck_29 : decode cX12_stuck 29 = .ok (.ifCond .lt 49, 3) := by decide +kernel
theorem dX12_stuck_32 : decode cX12_stuck 32 = .ok (.aload_n 0, 1) := by decide +kernel
theorem dX12_stuck_33 : decode cX12_stuck 33 = .ok (.getfield 102, 3) := by decide +kernel
theorem dX12_stuck_36 : decode cX12_stuck 36 = .ok (.bipush 18, 2) := by decide +kernel
theorem dX12_stuck_38 : decode cX12_stuck 38 = .ok (.iload_n 2, 1) := by decide +kernel
theorem dX12_stuck_39 : decode cX12_stuck 39 = .ok (.iadd, 1) := by decide +kernel
theorem dX12_stuck_40 : decode cX12_stuck 40 = .ok (.iaload, 1) := by decide +kernel
theorem dX12_stuck_41 : decode cX12_stuck 41 = .ok (.aload_n 0, 1) := by decide +kernel
theorem dX12_stuck_42 : decode cX12_stuck 42 = .ok (.getfield 99, 3) := by decide +kernel
theorem dX12_stuck_45 : decode cX12_stuck 45 = .ok (.bipush 18, 2) := by decide +kernel
theorem dX12_stuck_47 : decode cX12_stuck 47 = .ok (.iload_n 2, 1) := by decide +kernel
theorem dX12_stuck_48 : decode cX12_stuck 48 = .ok (.iadd, 1) := by decide +kernel
theorem dX12_stuck_49 : decode cX12_stuck 49 = .ok (.iaload, 1) := by decide +kernel
theorem dX12_stuck_50 : decode cX12_stuck 50 = .ok (.if_icmp .ne 28, 3) := by decide +kernel
theorem dX12_stuck_53 : decode cX12_stuck 53 = .ok (.aload_n 0, 1) := by decide +kernel
theorem dX12_stuck_54 : decode cX12_stuck 54 = .ok (.getfield 102, 3) := by decide +kernel
theorem dX12_stuck_57 : decode cX12_stuck 57 = .ok (.bipush 48, 2) := by decide +kernel
theorem dX12_stuck_59 : decode cX12_stuck 59 = .ok (.iload_n 2, 1) := by decide +kernel
theorem dX12_stuck_60 : decode cX12_stuck 60 = .ok (.iadd, 1) := by decide +kernel
theorem dX12_stuck_61 : decode cX12_stuck 61 = .ok (.iaload, 1) := by decide +kernel
theorem dX12_stuck_62 : decode cX12_stuck 62 = .ok (.aload_n 0, 1) := by decide +kernel
theorem dX12_stuck_63 : decode cX12_stuck 63 = .ok (.getfield 99, 3) := by decide +kernel
theorem dX12_stuck_66 : decode cX12_stuck 66 = .ok (.bipush 48, 2) := by decide +kernel
theorem dX12_stuck_68 : decode cX12_stuck 68 = .ok (.iload_n 2, 1) := by decide +kernel
theorem dX12_stuck_69 : decode cX12_stuck 69 = .ok (.iadd, 1) := by decide +kernel
theorem dX12_stuck_70 : decode cX12_stuck 70 = .ok (.iaload, 1) := by decide +kernel
theorem dX12_stuck_71 : decode cX12_stuck 71 = .ok (.if_icmp .ne 7, 3) := by decide +kernel
theorem dX12_stuck_74 : decode cX12_stuck 74 = .ok (.iconst 1, 1) := by decide +kernel
theorem dX12_stuck_75 : decode cX12_stuck 75 = .ok (.goto 4, 3) := by decide +kernel
theorem dX12_stuck_78 : decode cX12_stuck 78 = .ok (.iconst 0, 1) := by decide +kernel
theorem dX12_stuck_79 : decode cX12_stuck 79 = .ok (.invokestatic 317, 3) := by decide +kernel
theorem dX12_stuck_82 : decode cX12_stuck 82 = .ok (.iload_n 2, 1) := by decide +kernel
theorem dX12_stuck_83 : decode cX12_stuck 83 = .ok (.ishl, 1) := by decide +kernel
theorem dX12_stuck_84 : decode cX12_stuck 84 = .ok (.ior, 1) := by decide +kernel
theorem dX12_stuck_85 : decode cX12_stuck 85 = .ok (.istore_n 1, 1) := by decide +kernel
theorem dX12_stuck_86 : decode cX12_stuck 86 = .ok (.iinc 2 1, 3) := by decide +kernel
theorem dX12_stuck_89 : decode cX12_stuck 89 = .ok (.goto (-81), 3) := by decide +kernel
theorem dX12_stuck_92 : decode cX12_stuck 92 = .ok (.iload_n 1, 1) := by decide +kernel
theorem dX12_stuck_93 : decode cX12_stuck 93 = .ok (.ireturn, 1) := by decide +kernel
theorem dX12_meets_0 : decode cX12_meets 0 = .ok (.aload_n 0, 1) := by decide +kernel
theorem dX12_meets_1 : decode cX12_meets 1 = .ok (.iload_n 1, 1) := by decide +kernel
theorem dX12_meets_2 : decode cX12_meets 2 = .ok (.invokevirtual 493, 3) := by decide +kernel
theorem dX12_meets_5 : decode cX12_meets 5 = .ok (.ifCond .eq 25, 3) := by decide +kernel
theorem dX12_meets_8 : decode cX12_meets 8 = .ok (.aload_n 0, 1) := by decide +kernel
theorem dX12_meets_9 : decode cX12_meets 9 = .ok (.iload_n 2, 1) := by decide +kernel
theorem dX12_meets_10 : decode cX12_meets 10 = .ok (.invokevirtual 493, 3) := by decide +kernel
theorem dX12_meets_13 : decode cX12_meets 13 = .ok (.ifCond .eq 17, 3) := by decide +kernel
theorem dX12_meets_16 : decode cX12_meets 16 = .ok (.iload_n 1, 1) := by decide +kernel
theorem dX12_meets_17 : decode cX12_meets 17 = .ok (.iload_n 2, 1) := by decide +kernel
theorem dX12_meets_18 : decode cX12_meets 18 = .ok (.if_icmp .eq 12, 3) := by decide +kernel
theorem dX12_meets_21 : decode cX12_meets 21 = .ok (.iload_n 3, 1) := by decide +kernel
theorem dX12_meets_22 : decode cX12_meets 22 = .ok (.iconst 0, 1) := by decide +kernel
theorem dX12_meets_23 : decode cX12_meets 23 = .ok (.iconst 1, 1) := by decide +kernel
theorem dX12_meets_24 : decode cX12_meets 24 = .ok (.invokestatic 426, 3) := by decide +kernel
theorem dX12_meets_27 : decode cX12_meets 27 = .ok (.ifCond .ne 5, 3) := by decide +kernel
theorem dX12_meets_30 : decode cX12_meets 30 = .ok (.iconst (-1), 1) := by decide +kernel
theorem dX12_meets_31 : decode cX12_meets 31 = .ok (.ireturn, 1) := by decide +kernel
theorem dX12_meets_32 : decode cX12_meets 32 = .ok (.aload_n 0, 1) := by decide +kernel
theorem dX12_meets_33 : decode cX12_meets 33 = .ok (.invokevirtual 496, 3) := by decide +kernel
theorem dX12_meets_36 : decode cX12_meets 36 = .ok (.aload_n 0, 1) := by decide +kernel
theorem dX12_meets_37 : decode cX12_meets 37 = .ok (.getfield 102, 3) := by decide +kernel
theorem dX12_meets_40 : decode cX12_meets 40 = .ok (.bipush 90, 2) := by decide +kernel
theorem dX12_meets_42 : decode cX12_meets 42 = .ok (.iaload, 1) := by decide +kernel
theorem dX12_meets_43 : decode cX12_meets 43 = .ok (.sipush 300, 3) := by decide +kernel
theorem dX12_meets_46 : decode cX12_meets 46 = .ok (.if_icmp .ge 65, 3) := by decide +kernel
theorem dX12_meets_49 : decode cX12_meets 49 = .ok (.aload_n 0, 1) := by decide +kernel
theorem dX12_meets_50 : decode cX12_meets 50 = .ok (.invokevirtual 481, 3) := by decide +kernel
theorem dX12_meets_53 : decode cX12_meets 53 = .ok (.aload_n 0, 1) := by decide +kernel
theorem dX12_meets_54 : decode cX12_meets 54 = .ok (.getfield 102, 3) := by decide +kernel
theorem dX12_meets_57 : decode cX12_meets 57 = .ok (.iload_n 1, 1) := by decide +kernel
theorem dX12_meets_58 : decode cX12_meets 58 = .ok (.iaload, 1) := by decide +kernel
theorem dX12_meets_59 : decode cX12_meets 59 = .ok (.iconst 1, 1) := by decide +kernel
theorem dX12_meets_60 : decode cX12_meets 60 = .ok (.if_icmp .ne 44, 3) := by decide +kernel
theorem dX12_meets_63 : decode cX12_meets 63 = .ok (.aload_n 0, 1) := by decide +kernel
theorem dX12_meets_64 : decode cX12_meets 64 = .ok (.iload_n 2, 1) := by decide +kernel
theorem dX12_meets_65 : decode cX12_meets 65 = .ok (.aload_n 0, 1) := by decide +kernel
theorem dX12_meets_66 : decode cX12_meets 66 = .ok (.getfield 102, 3) := by decide +kernel
theorem dX12_meets_69 : decode cX12_meets 69 = .ok (.bipush 6, 2) := by decide +kernel
theorem dX12_meets_71 : decode cX12_meets 71 = .ok (.iload_n 1, 1) := by decide +kernel
theorem dX12_meets_72 : decode cX12_meets 72 = .ok (.iadd, 1) := by decide +kernel
theorem dX12_meets_73 : decode cX12_meets 73 = .ok (.iaload, 1) := by decide +kernel
theorem dX12_meets_74 : decode cX12_meets 74 = .ok (.invokevirtual 469, 3) := by decide +kernel
theorem dX12_meets_77 : decode cX12_meets 77 = .ok (.ifCond .eq 27, 3) := by decide +kernel
theorem dX12_meets_80 : decode cX12_meets 80 = .ok (.iload_n 3, 1) := by decide +kernel
theorem dX12_meets_81 : decode cX12_meets 81 = .ok (.ifCond .ne 13, 3) := by decide +kernel
theorem dX12_meets_84 : decode cX12_meets 84 = .ok (.aload_n 0, 1) := by decide +kernel
theorem dX12_meets_85 : decode cX12_meets 85 = .ok (.getfield 102, 3) := by decide +kernel
theorem dX12_meets_88 : decode cX12_meets 88 = .ok (.bipush 90, 2) := by decide +kernel
theorem dX12_meets_90 : decode cX12_meets 90 = .ok (.iaload, 1) := by decide +kernel
theorem dX12_meets_91 : decode cX12_meets 91 = .ok (.goto 12, 3) := by decide +kernel
theorem dX12_meets_94 : decode cX12_meets 94 = .ok (.aload_n 0, 1) := by decide +kernel
theorem dX12_meets_95 : decode cX12_meets 95 = .ok (.getfield 102, 3) := by decide +kernel
theorem dX12_meets_98 : decode cX12_meets 98 = .ok (.bipush 6, 2) := by decide +kernel
theorem dX12_meets_100 : decode cX12_meets 100 = .ok (.iload_n 1, 1) := by decide +kernel
theorem dX12_meets_101 : decode cX12_meets 101 = .ok (.iadd, 1) := by decide +kernel
theorem dX12_meets_102 : decode cX12_meets 102 = .ok (.iaload, 1) := by decide +kernel
theorem dX12_meets_103 : decode cX12_meets 103 = .ok (.ireturn, 1) := by decide +kernel
theorem dX12_meets_104 : decode cX12_meets 104 = .ok (.aload_n 0, 1) := by decide +kernel
theorem dX12_meets_105 : decode cX12_meets 105 = .ok (.invokevirtual 490, 3) := by decide +kernel
theorem dX12_meets_108 : decode cX12_meets 108 = .ok (.goto (-72), 3) := by decide +kernel
theorem dX12_meets_111 : decode cX12_meets 111 = .ok (.iconst (-1), 1) := by decide +kernel
theorem dX12_meets_112 : decode cX12_meets 112 = .ok (.ireturn, 1) := by decide +kernel
theorem dX12_buried_0 : decode cX12_buried 0 = .ok (.aload_n 0, 1) := by decide +kernel
theorem dX12_buried_1 : decode cX12_buried 1 = .ok (.iload_n 1, 1) := by decide +kernel
theorem dX12_buried_2 : decode cX12_buried 2 = .ok (.invokevirtual 493, 3) := by decide +kernel
theorem dX12_buried_5 : decode cX12_buried 5 = .ok (.ifCond .ne 5, 3) := by decide +kernel
theorem dX12_buried_8 : decode cX12_buried 8 = .ok (.iconst (-1), 1) := by decide +kernel
theorem dX12_buried_9 : decode cX12_buried 9 = .ok (.ireturn, 1) := by decide +kernel
theorem dX12_buried_10 : decode cX12_buried 10 = .ok (.aload_n 0, 1) := by decide +kernel
theorem dX12_buried_11 : decode cX12_buried 11 = .ok (.invokevirtual 496, 3) := by decide +kernel
theorem dX12_buried_14 : decode cX12_buried 14 = .ok (.aload_n 0, 1) := by decide +kernel
theorem dX12_buried_15 : decode cX12_buried 15 = .ok (.getfield 102, 3) := by decide +kernel
theorem dX12_buried_18 : decode cX12_buried 18 = .ok (.iload_n 1, 1) := by decide +kernel
theorem dX12_buried_19 : decode cX12_buried 19 = .ok (.iaload, 1) := by decide +kernel
theorem dX12_buried_20 : decode cX12_buried 20 = .ok (.iconst 3, 1) := by decide +kernel
theorem dX12_buried_21 : decode cX12_buried 21 = .ok (.if_icmp .ne 11, 3) := by decide +kernel
theorem dX12_buried_24 : decode cX12_buried 24 = .ok (.aload_n 0, 1) := by decide +kernel
theorem dX12_buried_25 : decode cX12_buried 25 = .ok (.getfield 102, 3) := by decide +kernel
theorem dX12_buried_28 : decode cX12_buried 28 = .ok (.bipush 90, 2) := by decide +kernel
theorem dX12_buried_30 : decode cX12_buried 30 = .ok (.iaload, 1) := by decide +kernel
theorem dX12_buried_31 : decode cX12_buried 31 = .ok (.ireturn, 1) := by decide +kernel
theorem dX12_buried_32 : decode cX12_buried 32 = .ok (.aload_n 0, 1) := by decide +kernel
theorem dX12_buried_33 : decode cX12_buried 33 = .ok (.getfield 102, 3) := by decide +kernel
theorem dX12_buried_36 : decode cX12_buried 36 = .ok (.bipush 90, 2) := by decide +kernel
theorem dX12_buried_38 : decode cX12_buried 38 = .ok (.iaload, 1) := by decide +kernel
theorem dX12_buried_39 : decode cX12_buried 39 = .ok (.sipush 300, 3) := by decide +kernel
theorem dX12_buried_42 : decode cX12_buried 42 = .ok (.if_icmp .ge 32, 3) := by decide +kernel
theorem dX12_buried_45 : decode cX12_buried 45 = .ok (.aload_n 0, 1) := by decide +kernel
theorem dX12_buried_46 : decode cX12_buried 46 = .ok (.invokevirtual 481, 3) := by decide +kernel
theorem dX12_buried_49 : decode cX12_buried 49 = .ok (.aload_n 0, 1) := by decide +kernel
theorem dX12_buried_50 : decode cX12_buried 50 = .ok (.getfield 102, 3) := by decide +kernel
theorem dX12_buried_53 : decode cX12_buried 53 = .ok (.iload_n 1, 1) := by decide +kernel
theorem dX12_buried_54 : decode cX12_buried 54 = .ok (.iaload, 1) := by decide +kernel
theorem dX12_buried_55 : decode cX12_buried 55 = .ok (.iconst 3, 1) := by decide +kernel
theorem dX12_buried_56 : decode cX12_buried 56 = .ok (.if_icmp .ne 11, 3) := by decide +kernel
theorem dX12_buried_59 : decode cX12_buried 59 = .ok (.aload_n 0, 1) := by decide +kernel
theorem dX12_buried_60 : decode cX12_buried 60 = .ok (.getfield 102, 3) := by decide +kernel
theorem dX12_buried_63 : decode cX12_buried 63 = .ok (.bipush 90, 2) := by decide +kernel
theorem dX12_buried_65 : decode cX12_buried 65 = .ok (.iaload, 1) := by decide +kernel
theorem dX12_buried_66 : decode cX12_buried 66 = .ok (.ireturn, 1) := by decide +kernel
theorem dX12_buried_67 : decode cX12_buried 67 = .ok (.aload_n 0, 1) := by decide +kernel
theorem dX12_buried_68 : decode cX12_buried 68 = .ok (.invokevirtual 490, 3) := by decide +kernel
theorem dX12_buried_71 : decode cX12_buried 71 = .ok (.goto (-39), 3) := by decide +kernel
theorem dX12_buried_74 : decode cX12_buried 74 = .ok (.iconst (-1), 1) := by decide +kernel
theorem dX12_buried_75 : decode cX12_buried 75 = .ok (.ireturn, 1) := by decide +kernel
theorem dX12_layStood_0 : decode cX12_layStood 0 = .ok (.aload_n 0, 1) := by decide +kernel
theorem dX12_layStood_1 : decode cX12_layStood 1 = .ok (.invokevirtual 496, 3) := by decide +kernel
theorem dX12_layStood_4 : decode cX12_layStood 4 = .ok (.iconst 0, 1) := by decide +kernel
theorem dX12_layStood_5 : decode cX12_layStood 5 = .ok (.istore_n 1, 1) := by decide +kernel
theorem dX12_layStood_6 : decode cX12_layStood 6 = .ok (.iload_n 1, 1) := by decide +kernel
theorem dX12_layStood_7 : decode cX12_layStood 7 = .ok (.bipush 42, 2) := by decide +kernel
theorem dX12_layStood_9 : decode cX12_layStood 9 = .ok (.if_icmp .ge 18, 3) := by decide +kernel
theorem dX12_layStood_12 : decode cX12_layStood 12 = .ok (.aload_n 0, 1) := by decide +kernel
theorem dX12_layStood_13 : decode cX12_layStood 13 = .ok (.getfield 114, 3) := by decide +kernel
theorem dX12_layStood_16 : decode cX12_layStood 16 = .ok (.iload_n 1, 1) := by decide +kernel
theorem dX12_layStood_17 : decode cX12_layStood 17 = .ok (.sipush 300, 3) := by decide +kernel
theorem dX12_layStood_20 : decode cX12_layStood 20 = .ok (.iastore, 1) := by decide +kernel
theorem dX12_layStood_21 : decode cX12_layStood 21 = .ok (.iinc 1 1, 3) := by decide +kernel
theorem dX12_layStood_24 : decode cX12_layStood 24 = .ok (.goto (-18), 3) := by decide +kernel
theorem dX12_layStood_27 : decode cX12_layStood 27 = .ok (.iconst 0, 1) := by decide +kernel
theorem dX12_layStood_28 : decode cX12_layStood 28 = .ok (.istore_n 1, 1) := by decide +kernel
theorem dX12_layStood_29 : decode cX12_layStood 29 = .ok (.iload_n 1, 1) := by decide +kernel
theorem dX12_layStood_30 : decode cX12_layStood 30 = .ok (.aload_n 0, 1) := by decide +kernel
theorem dX12_layStood_31 : decode cX12_layStood 31 = .ok (.getfield 401, 3) := by decide +kernel
theorem dX12_layStood_34 : decode cX12_layStood 34 = .ok (.if_icmp .ge 45, 3) := by decide +kernel
theorem dX12_layStood_37 : decode cX12_layStood 37 = .ok (.aload_n 0, 1) := by decide +kernel
theorem dX12_layStood_38 : decode cX12_layStood 38 = .ok (.getfield 102, 3) := by decide +kernel
theorem dX12_layStood_41 : decode cX12_layStood 41 = .ok (.iload_n 1, 1) := by decide +kernel
theorem dX12_layStood_42 : decode cX12_layStood 42 = .ok (.iaload, 1) := by decide +kernel
theorem dX12_layStood_43 : decode cX12_layStood 43 = .ok (.iconst 1, 1) := by decide +kernel
theorem dX12_layStood_44 : decode cX12_layStood 44 = .ok (.if_icmp .ne 29, 3) := by decide +kernel
theorem dX12_layStood_47 : decode cX12_layStood 47 = .ok (.aload_n 0, 1) := by decide +kernel
theorem dX12_layStood_48 : decode cX12_layStood 48 = .ok (.getfield 114, 3) := by decide +kernel
theorem dX12_layStood_51 : decode cX12_layStood 51 = .ok (.bipush 7, 2) := by decide +kernel
theorem dX12_layStood_53 : decode cX12_layStood 53 = .ok (.iload_n 1, 1) := by decide +kernel
theorem dX12_layStood_54 : decode cX12_layStood 54 = .ok (.imul, 1) := by decide +kernel
theorem dX12_layStood_55 : decode cX12_layStood 55 = .ok (.aload_n 0, 1) := by decide +kernel
theorem dX12_layStood_56 : decode cX12_layStood 56 = .ok (.getfield 102, 3) := by decide +kernel
theorem dX12_layStood_59 : decode cX12_layStood 59 = .ok (.bipush 6, 2) := by decide +kernel
theorem dX12_layStood_61 : decode cX12_layStood 61 = .ok (.iload_n 1, 1) := by decide +kernel
theorem dX12_layStood_62 : decode cX12_layStood 62 = .ok (.iadd, 1) := by decide +kernel
theorem dX12_layStood_63 : decode cX12_layStood 63 = .ok (.iaload, 1) := by decide +kernel
theorem dX12_layStood_64 : decode cX12_layStood 64 = .ok (.iadd, 1) := by decide +kernel
theorem dX12_layStood_65 : decode cX12_layStood 65 = .ok (.aload_n 0, 1) := by decide +kernel
theorem dX12_layStood_66 : decode cX12_layStood 66 = .ok (.getfield 102, 3) := by decide +kernel
theorem dX12_layStood_69 : decode cX12_layStood 69 = .ok (.bipush 90, 2) := by decide +kernel
theorem dX12_layStood_71 : decode cX12_layStood 71 = .ok (.iaload, 1) := by decide +kernel
theorem dX12_layStood_72 : decode cX12_layStood 72 = .ok (.iastore, 1) := by decide +kernel
theorem dX12_layStood_73 : decode cX12_layStood 73 = .ok (.iinc 1 1, 3) := by decide +kernel
theorem dX12_layStood_76 : decode cX12_layStood 76 = .ok (.goto (-47), 3) := by decide +kernel
theorem dX12_layStood_79 : decode cX12_layStood 79 = .ok (.aload_n 0, 1) := by decide +kernel
theorem dX12_layStood_80 : decode cX12_layStood 80 = .ok (.getfield 102, 3) := by decide +kernel
theorem dX12_layStood_83 : decode cX12_layStood 83 = .ok (.bipush 90, 2) := by decide +kernel
theorem dX12_layStood_85 : decode cX12_layStood 85 = .ok (.iaload, 1) := by decide +kernel
theorem dX12_layStood_86 : decode cX12_layStood 86 = .ok (.sipush 300, 3) := by decide +kernel
theorem dX12_layStood_89 : decode cX12_layStood 89 = .ok (.if_icmp .ge 101, 3) := by decide +kernel
theorem dX12_layStood_92 : decode cX12_layStood 92 = .ok (.aload_n 0, 1) := by decide +kernel
theorem dX12_layStood_93 : decode cX12_layStood 93 = .ok (.invokevirtual 481, 3) := by decide +kernel
theorem dX12_layStood_96 : decode cX12_layStood 96 = .ok (.iconst 0, 1) := by decide +kernel
theorem dX12_layStood_97 : decode cX12_layStood 97 = .ok (.istore_n 1, 1) := by decide +kernel
theorem dX12_layStood_98 : decode cX12_layStood 98 = .ok (.iload_n 1, 1) := by decide +kernel
theorem dX12_layStood_99 : decode cX12_layStood 99 = .ok (.aload_n 0, 1) := by decide +kernel
theorem dX12_layStood_100 : decode cX12_layStood 100 = .ok (.getfield 401, 3) := by decide +kernel
theorem dX12_layStood_103 : decode cX12_layStood 103 = .ok (.if_icmp .ge 80, 3) := by decide +kernel
theorem dX12_layStood_106 : decode cX12_layStood 106 = .ok (.aload_n 0, 1) := by decide +kernel
theorem dX12_layStood_107 : decode cX12_layStood 107 = .ok (.getfield 102, 3) := by decide +kernel
theorem dX12_layStood_110 : decode cX12_layStood 110 = .ok (.iload_n 1, 1) := by decide +kernel
theorem dX12_layStood_111 : decode cX12_layStood 111 = .ok (.iaload, 1) := by decide +kernel
theorem dX12_layStood_112 : decode cX12_layStood 112 = .ok (.iconst 1, 1) := by decide +kernel
theorem dX12_layStood_113 : decode cX12_layStood 113 = .ok (.if_icmp .eq 13, 3) := by decide +kernel
theorem dX12_layStood_116 : decode cX12_layStood 116 = .ok (.aload_n 0, 1) := by decide +kernel
theorem dX12_layStood_117 : decode cX12_layStood 117 = .ok (.getfield 102, 3) := by decide +kernel
theorem dX12_layStood_120 : decode cX12_layStood 120 = .ok (.iload_n 1, 1) := by decide +kernel
theorem dX12_layStood_121 : decode cX12_layStood 121 = .ok (.iaload, 1) := by decide +kernel
theorem dX12_layStood_122 : decode cX12_layStood 122 = .ok (.iconst 3, 1) := by decide +kernel
theorem dX12_layStood_123 : decode cX12_layStood 123 = .ok (.if_icmp .ne 54, 3) := by decide +kernel
theorem dX12_layStood_126 : decode cX12_layStood 126 = .ok (.aload_n 0, 1) := by decide +kernel
theorem dX12_layStood_127 : decode cX12_layStood 127 = .ok (.getfield 114, 3) := by decide +kernel
theorem dX12_layStood_130 : decode cX12_layStood 130 = .ok (.bipush 7, 2) := by decide +kernel
theorem dX12_layStood_132 : decode cX12_layStood 132 = .ok (.iload_n 1, 1) := by decide +kernel
theorem dX12_layStood_133 : decode cX12_layStood 133 = .ok (.imul, 1) := by decide +kernel
theorem dX12_layStood_134 : decode cX12_layStood 134 = .ok (.aload_n 0, 1) := by decide +kernel
theorem dX12_layStood_135 : decode cX12_layStood 135 = .ok (.getfield 102, 3) := by decide +kernel
theorem dX12_layStood_138 : decode cX12_layStood 138 = .ok (.bipush 6, 2) := by decide +kernel
theorem dX12_layStood_140 : decode cX12_layStood 140 = .ok (.iload_n 1, 1) := by decide +kernel
theorem dX12_layStood_141 : decode cX12_layStood 141 = .ok (.iadd, 1) := by decide +kernel
theorem dX12_layStood_142 : decode cX12_layStood 142 = .ok (.iaload, 1) := by decide +kernel
theorem dX12_layStood_143 : decode cX12_layStood 143 = .ok (.iadd, 1) := by decide +kernel
theorem dX12_layStood_144 : decode cX12_layStood 144 = .ok (.iaload, 1) := by decide +kernel
theorem dX12_layStood_145 : decode cX12_layStood 145 = .ok (.sipush 300, 3) := by decide +kernel
theorem dX12_layStood_148 : decode cX12_layStood 148 = .ok (.if_icmp .ne 29, 3) := by decide +kernel
theorem dX12_layStood_151 : decode cX12_layStood 151 = .ok (.aload_n 0, 1) := by decide +kernel
theorem dX12_layStood_152 : decode cX12_layStood 152 = .ok (.getfield 114, 3) := by decide +kernel
theorem dX12_layStood_155 : decode cX12_layStood 155 = .ok (.bipush 7, 2) := by decide +kernel
theorem dX12_layStood_157 : decode cX12_layStood 157 = .ok (.iload_n 1, 1) := by decide +kernel
theorem dX12_layStood_158 : decode cX12_layStood 158 = .ok (.imul, 1) := by decide +kernel
theorem dX12_layStood_159 : decode cX12_layStood 159 = .ok (.aload_n 0, 1) := by decide +kernel
theorem dX12_layStood_160 : decode cX12_layStood 160 = .ok (.getfield 102, 3) := by decide +kernel
theorem dX12_layStood_163 : decode cX12_layStood 163 = .ok (.bipush 6, 2) := by decide +kernel
theorem dX12_layStood_165 : decode cX12_layStood 165 = .ok (.iload_n 1, 1) := by decide +kernel
theorem dX12_layStood_166 : decode cX12_layStood 166 = .ok (.iadd, 1) := by decide +kernel
theorem dX12_layStood_167 : decode cX12_layStood 167 = .ok (.iaload, 1) := by decide +kernel
theorem dX12_layStood_168 : decode cX12_layStood 168 = .ok (.iadd, 1) := by decide +kernel
theorem dX12_layStood_169 : decode cX12_layStood 169 = .ok (.aload_n 0, 1) := by decide +kernel
theorem dX12_layStood_170 : decode cX12_layStood 170 = .ok (.getfield 102, 3) := by decide +kernel
theorem dX12_layStood_173 : decode cX12_layStood 173 = .ok (.bipush 90, 2) := by decide +kernel
theorem dX12_layStood_175 : decode cX12_layStood 175 = .ok (.iaload, 1) := by decide +kernel
theorem dX12_layStood_176 : decode cX12_layStood 176 = .ok (.iastore, 1) := by decide +kernel
theorem dX12_layStood_177 : decode cX12_layStood 177 = .ok (.iinc 1 1, 3) := by decide +kernel
theorem dX12_layStood_180 : decode cX12_layStood 180 = .ok (.goto (-82), 3) := by decide +kernel
theorem dX12_layStood_183 : decode cX12_layStood 183 = .ok (.aload_n 0, 1) := by decide +kernel
theorem dX12_layStood_184 : decode cX12_layStood 184 = .ok (.invokevirtual 490, 3) := by decide +kernel
theorem dX12_layStood_187 : decode cX12_layStood 187 = .ok (.goto (-108), 3) := by decide +kernel
theorem dX12_layStood_190 : decode cX12_layStood 190 = .ok (.return_, 1) := by decide +kernel
theorem dX12_worthBy_0 : decode cX12_worthBy 0 = .ok (.iconst 0, 1) := by decide +kernel
theorem dX12_worthBy_1 : decode cX12_worthBy 1 = .ok (.istore_n 3, 1) := by decide +kernel
theorem dX12_worthBy_2 : decode cX12_worthBy 2 = .ok (.iconst 0, 1) := by decide +kernel
theorem dX12_worthBy_3 : decode cX12_worthBy 3 = .ok (.istore 4, 2) := by decide +kernel
theorem dX12_worthBy_5 : decode cX12_worthBy 5 = .ok (.iload 4, 2) := by decide +kernel
theorem dX12_worthBy_7 : decode cX12_worthBy 7 = .ok (.aload_n 0, 1) := by decide +kernel
theorem dX12_worthBy_8 : decode cX12_worthBy 8 = .ok (.getfield 99, 3) := by decide +kernel
theorem dX12_worthBy_11 : decode cX12_worthBy 11 = .ok (.bipush 88, 2) := by decide +kernel
theorem dX12_worthBy_13 : decode cX12_worthBy 13 = .ok (.iaload, 1) := by decide +kernel
theorem dX12_worthBy_14 : decode cX12_worthBy 14 = .ok (.if_icmp .ge 77, 3) := by decide +kernel
theorem dX12_worthBy_17 : decode cX12_worthBy 17 = .ok (.aload_n 0, 1) := by decide +kernel
theorem dX12_worthBy_18 : decode cX12_worthBy 18 = .ok (.getfield 114, 3) := by decide +kernel
theorem dX12_worthBy_21 : decode cX12_worthBy 21 = .ok (.bipush 7, 2) := by decide +kernel
theorem dX12_worthBy_23 : decode cX12_worthBy 23 = .ok (.iload_n 2, 1) := by decide +kernel
theorem dX12_worthBy_24 : decode cX12_worthBy 24 = .ok (.imul, 1) := by decide +kernel
theorem dX12_worthBy_25 : decode cX12_worthBy 25 = .ok (.aload_n 0, 1) := by decide +kernel
theorem dX12_worthBy_26 : decode cX12_worthBy 26 = .ok (.getfield 99, 3) := by decide +kernel
theorem dX12_worthBy_29 : decode cX12_worthBy 29 = .ok (.bipush 58, 2) := by decide +kernel
theorem dX12_worthBy_31 : decode cX12_worthBy 31 = .ok (.iload 4, 2) := by decide +kernel
theorem dX12_worthBy_33 : decode cX12_worthBy 33 = .ok (.iadd, 1) := by decide +kernel
theorem dX12_worthBy_34 : decode cX12_worthBy 34 = .ok (.iaload, 1) := by decide +kernel
theorem dX12_worthBy_35 : decode cX12_worthBy 35 = .ok (.iadd, 1) := by decide +kernel
theorem dX12_worthBy_36 : decode cX12_worthBy 36 = .ok (.iaload, 1) := by decide +kernel
theorem dX12_worthBy_37 : decode cX12_worthBy 37 = .ok (.istore 5, 2) := by decide +kernel
theorem dX12_worthBy_39 : decode cX12_worthBy 39 = .ok (.iload_n 1, 1) := by decide +kernel
theorem dX12_worthBy_40 : decode cX12_worthBy 40 = .ok (.iload 4, 2) := by decide +kernel
theorem dX12_worthBy_42 : decode cX12_worthBy 42 = .ok (.ishr, 1) := by decide +kernel
theorem dX12_worthBy_43 : decode cX12_worthBy 43 = .ok (.iconst 1, 1) := by decide +kernel
theorem dX12_worthBy_44 : decode cX12_worthBy 44 = .ok (.iand, 1) := by decide +kernel
theorem dX12_worthBy_45 : decode cX12_worthBy 45 = .ok (.iconst 1, 1) := by decide +kernel
theorem dX12_worthBy_46 : decode cX12_worthBy 46 = .ok (.if_icmp .ne 39, 3) := by decide +kernel
theorem dX12_worthBy_49 : decode cX12_worthBy 49 = .ok (.iload 5, 2) := by decide +kernel
theorem dX12_worthBy_51 : decode cX12_worthBy 51 = .ok (.sipush 300, 3) := by decide +kernel
theorem dX12_worthBy_54 : decode cX12_worthBy 54 = .ok (.if_icmp .ge 31, 3) := by decide +kernel
theorem dX12_worthBy_57 : decode cX12_worthBy 57 = .ok (.iload 5, 2) := by decide +kernel
theorem dX12_worthBy_59 : decode cX12_worthBy 59 = .ok (.aload_n 0, 1) := by decide +kernel
theorem dX12_worthBy_60 : decode cX12_worthBy 60 = .ok (.getfield 99, 3) := by decide +kernel
theorem dX12_worthBy_63 : decode cX12_worthBy 63 = .ok (.bipush 68, 2) := by decide +kernel
theorem dX12_worthBy_65 : decode cX12_worthBy 65 = .ok (.iload 4, 2) := by decide +kernel
theorem dX12_worthBy_67 : decode cX12_worthBy 67 = .ok (.iadd, 1) := by decide +kernel
theorem dX12_worthBy_68 : decode cX12_worthBy 68 = .ok (.iaload, 1) := by decide +kernel
theorem dX12_worthBy_69 : decode cX12_worthBy 69 = .ok (.if_icmp .gt 16, 3) := by decide +kernel
theorem dX12_worthBy_72 : decode cX12_worthBy 72 = .ok (.iload_n 3, 1) := by decide +kernel
theorem dX12_worthBy_73 : decode cX12_worthBy 73 = .ok (.aload_n 0, 1) := by decide +kernel
theorem dX12_worthBy_74 : decode cX12_worthBy 74 = .ok (.getfield 99, 3) := by decide +kernel
theorem dX12_worthBy_77 : decode cX12_worthBy 77 = .ok (.bipush 78, 2) := by decide +kernel
theorem dX12_worthBy_79 : decode cX12_worthBy 79 = .ok (.iload 4, 2) := by decide +kernel
theorem dX12_worthBy_81 : decode cX12_worthBy 81 = .ok (.iadd, 1) := by decide +kernel
theorem dX12_worthBy_82 : decode cX12_worthBy 82 = .ok (.iaload, 1) := by decide +kernel
theorem dX12_worthBy_83 : decode cX12_worthBy 83 = .ok (.iadd, 1) := by decide +kernel
theorem dX12_worthBy_84 : decode cX12_worthBy 84 = .ok (.istore_n 3, 1) := by decide +kernel
theorem dX12_worthBy_85 : decode cX12_worthBy 85 = .ok (.iinc 4 1, 3) := by decide +kernel
theorem dX12_worthBy_88 : decode cX12_worthBy 88 = .ok (.goto (-83), 3) := by decide +kernel
theorem dX12_worthBy_91 : decode cX12_worthBy 91 = .ok (.iload_n 3, 1) := by decide +kernel
theorem dX12_worthBy_92 : decode cX12_worthBy 92 = .ok (.ireturn, 1) := by decide +kernel
theorem dX12_members_0 : decode cX12_members 0 = .ok (.iconst 0, 1) := by decide +kernel
theorem dX12_members_1 : decode cX12_members 1 = .ok (.istore_n 1, 1) := by decide +kernel
theorem dX12_members_2 : decode cX12_members 2 = .ok (.iconst 0, 1) := by decide +kernel
theorem dX12_members_3 : decode cX12_members 3 = .ok (.istore_n 2, 1) := by decide +kernel
theorem dX12_members_4 : decode cX12_members 4 = .ok (.iload_n 2, 1) := by decide +kernel
theorem dX12_members_5 : decode cX12_members 5 = .ok (.bipush 12, 2) := by decide +kernel
theorem dX12_members_7 : decode cX12_members 7 = .ok (.if_icmp .ge 17, 3) := by decide +kernel
theorem dX12_members_10 : decode cX12_members 10 = .ok (.iload_n 1, 1) := by decide +kernel
theorem dX12_members_11 : decode cX12_members 11 = .ok (.iload_n 0, 1) := by decide +kernel
theorem dX12_members_12 : decode cX12_members 12 = .ok (.iload_n 2, 1) := by decide +kernel
theorem dX12_members_13 : decode cX12_members 13 = .ok (.ishr, 1) := by decide +kernel
theorem dX12_members_14 : decode cX12_members 14 = .ok (.iconst 1, 1) := by decide +kernel
theorem dX12_members_15 : decode cX12_members 15 = .ok (.iand, 1) := by decide +kernel
theorem dX12_members_16 : decode cX12_members 16 = .ok (.iadd, 1) := by decide +kernel
theorem dX12_members_17 : decode cX12_members 17 = .ok (.istore_n 1, 1) := by decide +kernel
theorem dX12_members_18 : decode cX12_members 18 = .ok (.iinc 2 1, 3) := by decide +kernel
theorem dX12_members_21 : decode cX12_members 21 = .ok (.goto (-17), 3) := by decide +kernel
theorem dX12_members_24 : decode cX12_members 24 = .ok (.iload_n 1, 1) := by decide +kernel
theorem dX12_members_25 : decode cX12_members 25 = .ok (.ireturn, 1) := by decide +kernel
theorem dX12_swap_0 : decode cX12_swap 0 = .ok (.aload_n 0, 1) := by decide +kernel
theorem dX12_swap_1 : decode cX12_swap 1 = .ok (.iload_n 1, 1) := by decide +kernel
theorem dX12_swap_2 : decode cX12_swap 2 = .ok (.invokevirtual 493, 3) := by decide +kernel
theorem dX12_swap_5 : decode cX12_swap 5 = .ok (.ifCond .eq 25, 3) := by decide +kernel
theorem dX12_swap_8 : decode cX12_swap 8 = .ok (.aload_n 0, 1) := by decide +kernel
theorem dX12_swap_9 : decode cX12_swap 9 = .ok (.iload_n 2, 1) := by decide +kernel
theorem dX12_swap_10 : decode cX12_swap 10 = .ok (.invokevirtual 493, 3) := by decide +kernel
theorem dX12_swap_13 : decode cX12_swap 13 = .ok (.ifCond .eq 17, 3) := by decide +kernel
theorem dX12_swap_16 : decode cX12_swap 16 = .ok (.iload_n 1, 1) := by decide +kernel
theorem dX12_swap_17 : decode cX12_swap 17 = .ok (.iload_n 2, 1) := by decide +kernel
theorem dX12_swap_18 : decode cX12_swap 18 = .ok (.if_icmp .eq 12, 3) := by decide +kernel
theorem dX12_swap_21 : decode cX12_swap 21 = .ok (.iload_n 3, 1) := by decide +kernel
theorem dX12_swap_22 : decode cX12_swap 22 = .ok (.iconst 0, 1) := by decide +kernel
theorem dX12_swap_23 : decode cX12_swap 23 = .ok (.iconst 2, 1) := by decide +kernel
theorem dX12_swap_24 : decode cX12_swap 24 = .ok (.invokestatic 426, 3) := by decide +kernel
theorem dX12_swap_27 : decode cX12_swap 27 = .ok (.ifCond .ne 5, 3) := by decide +kernel
theorem dX12_swap_30 : decode cX12_swap 30 = .ok (.iconst (-1), 1) := by decide +kernel
theorem dX12_swap_31 : decode cX12_swap 31 = .ok (.ireturn, 1) := by decide +kernel
theorem dX12_swap_32 : decode cX12_swap 32 = .ok (.aload_n 0, 1) := by decide +kernel
theorem dX12_swap_33 : decode cX12_swap 33 = .ok (.getfield 99, 3) := by decide +kernel
theorem dX12_swap_36 : decode cX12_swap 36 = .ok (.iload_n 1, 1) := by decide +kernel
theorem dX12_swap_37 : decode cX12_swap 37 = .ok (.iaload, 1) := by decide +kernel
theorem dX12_swap_38 : decode cX12_swap 38 = .ok (.iconst 1, 1) := by decide +kernel
theorem dX12_swap_39 : decode cX12_swap 39 = .ok (.if_icmp .ne 34, 3) := by decide +kernel
theorem dX12_swap_42 : decode cX12_swap 42 = .ok (.aload_n 0, 1) := by decide +kernel
theorem dX12_swap_43 : decode cX12_swap 43 = .ok (.getfield 99, 3) := by decide +kernel
theorem dX12_swap_46 : decode cX12_swap 46 = .ok (.iload_n 2, 1) := by decide +kernel
theorem dX12_swap_47 : decode cX12_swap 47 = .ok (.iaload, 1) := by decide +kernel
theorem dX12_swap_48 : decode cX12_swap 48 = .ok (.iconst 1, 1) := by decide +kernel
theorem dX12_swap_49 : decode cX12_swap 49 = .ok (.if_icmp .ne 24, 3) := by decide +kernel
theorem dX12_swap_52 : decode cX12_swap 52 = .ok (.aload_n 0, 1) := by decide +kernel
theorem dX12_swap_53 : decode cX12_swap 53 = .ok (.getfield 99, 3) := by decide +kernel
theorem dX12_swap_56 : decode cX12_swap 56 = .ok (.bipush 6, 2) := by decide +kernel
theorem dX12_swap_58 : decode cX12_swap 58 = .ok (.iload_n 1, 1) := by decide +kernel
theorem dX12_swap_59 : decode cX12_swap 59 = .ok (.iadd, 1) := by decide +kernel
theorem dX12_swap_60 : decode cX12_swap 60 = .ok (.iaload, 1) := by decide +kernel
theorem dX12_swap_61 : decode cX12_swap 61 = .ok (.aload_n 0, 1) := by decide +kernel
theorem dX12_swap_62 : decode cX12_swap 62 = .ok (.getfield 99, 3) := by decide +kernel
theorem dX12_swap_65 : decode cX12_swap 65 = .ok (.bipush 6, 2) := by decide +kernel
theorem dX12_swap_67 : decode cX12_swap 67 = .ok (.iload_n 2, 1) := by decide +kernel
theorem dX12_swap_68 : decode cX12_swap 68 = .ok (.iadd, 1) := by decide +kernel
theorem dX12_swap_69 : decode cX12_swap 69 = .ok (.iaload, 1) := by decide +kernel
theorem dX12_swap_70 : decode cX12_swap 70 = .ok (.if_icmp .eq 5, 3) := by decide +kernel
theorem dX12_swap_73 : decode cX12_swap 73 = .ok (.iconst (-1), 1) := by decide +kernel
theorem dX12_swap_74 : decode cX12_swap 74 = .ok (.ireturn, 1) := by decide +kernel
theorem dX12_swap_75 : decode cX12_swap 75 = .ok (.iconst 0, 1) := by decide +kernel
theorem dX12_swap_76 : decode cX12_swap 76 = .ok (.istore 4, 2) := by decide +kernel
theorem dX12_swap_78 : decode cX12_swap 78 = .ok (.iconst 0, 1) := by decide +kernel
theorem dX12_swap_79 : decode cX12_swap 79 = .ok (.istore 5, 2) := by decide +kernel
theorem dX12_swap_81 : decode cX12_swap 81 = .ok (.iload 5, 2) := by decide +kernel
theorem dX12_swap_83 : decode cX12_swap 83 = .ok (.aload_n 0, 1) := by decide +kernel
theorem dX12_swap_84 : decode cX12_swap 84 = .ok (.getfield 99, 3) := by decide +kernel
theorem dX12_swap_87 : decode cX12_swap 87 = .ok (.bipush 88, 2) := by decide +kernel
theorem dX12_swap_89 : decode cX12_swap 89 = .ok (.iaload, 1) := by decide +kernel
theorem dX12_swap_90 : decode cX12_swap 90 = .ok (.if_icmp .ge 53, 3) := by decide +kernel
theorem dX12_swap_93 : decode cX12_swap 93 = .ok (.iload 4, 2) := by decide +kernel
theorem dX12_swap_95 : decode cX12_swap 95 = .ok (.aload_n 0, 1) := by decide +kernel
theorem dX12_swap_96 : decode cX12_swap 96 = .ok (.getfield 99, 3) := by decide +kernel
theorem dX12_swap_99 : decode cX12_swap 99 = .ok (.bipush 28, 2) := by decide +kernel
theorem dX12_swap_101 : decode cX12_swap 101 = .ok (.iload 5, 2) := by decide +kernel
theorem dX12_swap_103 : decode cX12_swap 103 = .ok (.iadd, 1) := by decide +kernel
theorem dX12_swap_104 : decode cX12_swap 104 = .ok (.iaload, 1) := by decide +kernel
theorem dX12_swap_105 : decode cX12_swap 105 = .ok (.iload_n 1, 1) := by decide +kernel
theorem dX12_swap_106 : decode cX12_swap 106 = .ok (.if_icmp .eq 17, 3) := by decide +kernel
theorem dX12_swap_109 : decode cX12_swap 109 = .ok (.aload_n 0, 1) := by decide +kernel
theorem dX12_swap_110 : decode cX12_swap 110 = .ok (.getfield 99, 3) := by decide +kernel
theorem dX12_swap_113 : decode cX12_swap 113 = .ok (.bipush 28, 2) := by decide +kernel
theorem dX12_swap_115 : decode cX12_swap 115 = .ok (.iload 5, 2) := by decide +kernel
theorem dX12_swap_117 : decode cX12_swap 117 = .ok (.iadd, 1) := by decide +kernel
theorem dX12_swap_118 : decode cX12_swap 118 = .ok (.iaload, 1) := by decide +kernel
theorem dX12_swap_119 : decode cX12_swap 119 = .ok (.iload_n 2, 1) := by decide +kernel
theorem dX12_swap_120 : decode cX12_swap 120 = .ok (.if_icmp .ne 7, 3) := by decide +kernel
theorem dX12_swap_123 : decode cX12_swap 123 = .ok (.iconst 1, 1) := by decide +kernel
theorem dX12_swap_124 : decode cX12_swap 124 = .ok (.goto 4, 3) := by decide +kernel
theorem dX12_swap_127 : decode cX12_swap 127 = .ok (.iconst 0, 1) := by decide +kernel
theorem dX12_swap_128 : decode cX12_swap 128 = .ok (.invokestatic 317, 3) := by decide +kernel
theorem dX12_swap_131 : decode cX12_swap 131 = .ok (.iload 5, 2) := by decide +kernel
theorem dX12_swap_133 : decode cX12_swap 133 = .ok (.ishl, 1) := by decide +kernel
theorem dX12_swap_134 : decode cX12_swap 134 = .ok (.ior, 1) := by decide +kernel
theorem dX12_swap_135 : decode cX12_swap 135 = .ok (.istore 4, 2) := by decide +kernel
theorem dX12_swap_137 : decode cX12_swap 137 = .ok (.iinc 5 1, 3) := by decide +kernel
theorem dX12_swap_140 : decode cX12_swap 140 = .ok (.goto (-59), 3) := by decide +kernel
theorem dX12_swap_143 : decode cX12_swap 143 = .ok (.aload_n 0, 1) := by decide +kernel
theorem dX12_swap_144 : decode cX12_swap 144 = .ok (.invokevirtual 532, 3) := by decide +kernel
theorem dX12_swap_147 : decode cX12_swap 147 = .ok (.iconst (-1), 1) := by decide +kernel
theorem dX12_swap_148 : decode cX12_swap 148 = .ok (.istore 5, 2) := by decide +kernel
theorem dX12_swap_150 : decode cX12_swap 150 = .ok (.iconst (-1), 1) := by decide +kernel
theorem dX12_swap_151 : decode cX12_swap 151 = .ok (.istore 6, 2) := by decide +kernel
theorem dX12_swap_153 : decode cX12_swap 153 = .ok (.iconst 0, 1) := by decide +kernel
theorem dX12_swap_154 : decode cX12_swap 154 = .ok (.istore 7, 2) := by decide +kernel
theorem dX12_swap_156 : decode cX12_swap 156 = .ok (.iload 7, 2) := by decide +kernel
theorem dX12_swap_158 : decode cX12_swap 158 = .ok (.iload 4, 2) := by decide +kernel
theorem dX12_swap_160 : decode cX12_swap 160 = .ok (.if_icmp .gt 95, 3) := by decide +kernel
theorem dX12_swap_163 : decode cX12_swap 163 = .ok (.iload 7, 2) := by decide +kernel
theorem dX12_swap_165 : decode cX12_swap 165 = .ok (.iload 4, 2) := by decide +kernel
theorem dX12_swap_167 : decode cX12_swap 167 = .ok (.iconst (-1), 1) := by decide +kernel
theorem dX12_swap_168 : decode cX12_swap 168 = .ok (.ixor, 1) := by decide +kernel
theorem dX12_swap_169 : decode cX12_swap 169 = .ok (.iand, 1) := by decide +kernel
theorem dX12_swap_170 : decode cX12_swap 170 = .ok (.ifCond .ne 79, 3) := by decide +kernel
theorem dX12_swap_173 : decode cX12_swap 173 = .ok (.iload 7, 2) := by decide +kernel
theorem dX12_swap_175 : decode cX12_swap 175 = .ok (.invokestatic 535, 3) := by decide +kernel
theorem dX12_swap_178 : decode cX12_swap 178 = .ok (.aload_n 0, 1) := by decide +kernel
theorem dX12_swap_179 : decode cX12_swap 179 = .ok (.getfield 81, 3) := by decide +kernel
theorem dX12_swap_182 : decode cX12_swap 182 = .ok (.iload_n 1, 1) := by decide +kernel
theorem dX12_swap_183 : decode cX12_swap 183 = .ok (.iaload, 1) := by decide +kernel
theorem dX12_swap_184 : decode cX12_swap 184 = .ok (.if_icmp .gt 65, 3) := by decide +kernel
theorem dX12_swap_187 : decode cX12_swap 187 = .ok (.iload 4, 2) := by decide +kernel
theorem dX12_swap_189 : decode cX12_swap 189 = .ok (.iload 7, 2) := by decide +kernel
theorem dX12_swap_191 : decode cX12_swap 191 = .ok (.iconst (-1), 1) := by decide +kernel
theorem dX12_swap_192 : decode cX12_swap 192 = .ok (.ixor, 1) := by decide +kernel
theorem dX12_swap_193 : decode cX12_swap 193 = .ok (.iand, 1) := by decide +kernel
theorem dX12_swap_194 : decode cX12_swap 194 = .ok (.invokestatic 535, 3) := by decide +kernel
theorem dX12_swap_197 : decode cX12_swap 197 = .ok (.aload_n 0, 1) := by decide +kernel
theorem dX12_swap_198 : decode cX12_swap 198 = .ok (.getfield 81, 3) := by decide +kernel
theorem dX12_swap_201 : decode cX12_swap 201 = .ok (.iload_n 2, 1) := by decide +kernel
theorem dX12_swap_202 : decode cX12_swap 202 = .ok (.iaload, 1) := by decide +kernel
theorem dX12_swap_203 : decode cX12_swap 203 = .ok (.if_icmp .le 6, 3) := by decide +kernel
theorem dX12_swap_206 : decode cX12_swap 206 = .ok (.goto 43, 3) := by decide +kernel
theorem dX12_swap_209 : decode cX12_swap 209 = .ok (.aload_n 0, 1) := by decide +kernel
theorem dX12_swap_210 : decode cX12_swap 210 = .ok (.iload 7, 2) := by decide +kernel
theorem dX12_swap_212 : decode cX12_swap 212 = .ok (.iload_n 1, 1) := by decide +kernel
theorem dX12_swap_213 : decode cX12_swap 213 = .ok (.invokevirtual 538, 3) := by decide +kernel
theorem dX12_swap_216 : decode cX12_swap 216 = .ok (.aload_n 0, 1) := by decide +kernel
theorem dX12_swap_217 : decode cX12_swap 217 = .ok (.iload 4, 2) := by decide +kernel
theorem dX12_swap_219 : decode cX12_swap 219 = .ok (.iload 7, 2) := by decide +kernel
theorem dX12_swap_221 : decode cX12_swap 221 = .ok (.iconst (-1), 1) := by decide +kernel
theorem dX12_swap_222 : decode cX12_swap 222 = .ok (.ixor, 1) := by decide +kernel
theorem dX12_swap_223 : decode cX12_swap 223 = .ok (.iand, 1) := by decide +kernel
theorem dX12_swap_224 : decode cX12_swap 224 = .ok (.iload_n 2, 1) := by decide +kernel
theorem dX12_swap_225 : decode cX12_swap 225 = .ok (.invokevirtual 538, 3) := by decide +kernel
theorem dX12_swap_228 : decode cX12_swap 228 = .ok (.iadd, 1) := by decide +kernel
theorem dX12_swap_229 : decode cX12_swap 229 = .ok (.istore 8, 2) := by decide +kernel
theorem dX12_swap_231 : decode cX12_swap 231 = .ok (.iload 8, 2) := by decide +kernel
theorem dX12_swap_233 : decode cX12_swap 233 = .ok (.iload 6, 2) := by decide +kernel
theorem dX12_swap_235 : decode cX12_swap 235 = .ok (.if_icmp .gt 6, 3) := by decide +kernel
theorem dX12_swap_238 : decode cX12_swap 238 = .ok (.goto 11, 3) := by decide +kernel
theorem dX12_swap_241 : decode cX12_swap 241 = .ok (.iload 7, 2) := by decide +kernel
theorem dX12_swap_243 : decode cX12_swap 243 = .ok (.istore 5, 2) := by decide +kernel
theorem dX12_swap_245 : decode cX12_swap 245 = .ok (.iload 8, 2) := by decide +kernel
theorem dX12_swap_247 : decode cX12_swap 247 = .ok (.istore 6, 2) := by decide +kernel
theorem dX12_swap_249 : decode cX12_swap 249 = .ok (.iinc 7 1, 3) := by decide +kernel
theorem dX12_swap_252 : decode cX12_swap 252 = .ok (.goto (-96), 3) := by decide +kernel
theorem dX12_swap_255 : decode cX12_swap 255 = .ok (.iload_n 3, 1) := by decide +kernel
theorem dX12_swap_256 : decode cX12_swap 256 = .ok (.ifCond .ne 8, 3) := by decide +kernel
theorem dX12_swap_259 : decode cX12_swap 259 = .ok (.iload 6, 2) := by decide +kernel
theorem dX12_swap_261 : decode cX12_swap 261 = .ok (.goto 20, 3) := by decide +kernel
theorem dX12_swap_264 : decode cX12_swap 264 = .ok (.iload_n 3, 1) := by decide +kernel
theorem dX12_swap_265 : decode cX12_swap 265 = .ok (.iconst 1, 1) := by decide +kernel
theorem dX12_swap_266 : decode cX12_swap 266 = .ok (.if_icmp .ne 8, 3) := by decide +kernel
theorem dX12_swap_269 : decode cX12_swap 269 = .ok (.iload 5, 2) := by decide +kernel
theorem dX12_swap_271 : decode cX12_swap 271 = .ok (.goto 10, 3) := by decide +kernel
theorem dX12_swap_274 : decode cX12_swap 274 = .ok (.iload 4, 2) := by decide +kernel
theorem dX12_swap_276 : decode cX12_swap 276 = .ok (.iload 5, 2) := by decide +kernel
theorem dX12_swap_278 : decode cX12_swap 278 = .ok (.iconst (-1), 1) := by decide +kernel
theorem dX12_swap_279 : decode cX12_swap 279 = .ok (.ixor, 1) := by decide +kernel
theorem dX12_swap_280 : decode cX12_swap 280 = .ok (.iand, 1) := by decide +kernel
theorem dX12_swap_281 : decode cX12_swap 281 = .ok (.ireturn, 1) := by decide +kernel
theorem dX12_cover_0 : decode cX12_cover 0 = .ok (.iload_n 1, 1) := by decide +kernel
theorem dX12_cover_1 : decode cX12_cover 1 = .ok (.iconst 0, 1) := by decide +kernel
theorem dX12_cover_2 : decode cX12_cover 2 = .ok (.iconst 1, 1) := by decide +kernel
theorem dX12_cover_3 : decode cX12_cover 3 = .ok (.aload_n 0, 1) := by decide +kernel
theorem dX12_cover_4 : decode cX12_cover 4 = .ok (.getfield 395, 3) := by decide +kernel
theorem dX12_cover_7 : decode cX12_cover 7 = .ok (.ishl, 1) := by decide +kernel
theorem dX12_cover_8 : decode cX12_cover 8 = .ok (.iconst 1, 1) := by decide +kernel
theorem dX12_cover_9 : decode cX12_cover 9 = .ok (.isub, 1) := by decide +kernel
theorem dX12_cover_10 : decode cX12_cover 10 = .ok (.invokestatic 426, 3) := by decide +kernel
theorem dX12_cover_13 : decode cX12_cover 13 = .ok (.ifCond .eq 12, 3) := by decide +kernel
theorem dX12_cover_16 : decode cX12_cover 16 = .ok (.iload_n 2, 1) := by decide +kernel
theorem dX12_cover_17 : decode cX12_cover 17 = .ok (.iconst 0, 1) := by decide +kernel
theorem dX12_cover_18 : decode cX12_cover 18 = .ok (.iconst 1, 1) := by decide +kernel
theorem dX12_cover_19 : decode cX12_cover 19 = .ok (.invokestatic 426, 3) := by decide +kernel
theorem dX12_cover_22 : decode cX12_cover 22 = .ok (.ifCond .ne 5, 3) := by decide +kernel
theorem dX12_cover_25 : decode cX12_cover 25 = .ok (.iconst (-1), 1) := by decide +kernel
theorem dX12_cover_26 : decode cX12_cover 26 = .ok (.ireturn, 1) := by decide +kernel
theorem dX12_cover_27 : decode cX12_cover 27 = .ok (.aload_n 0, 1) := by decide +kernel
theorem dX12_cover_28 : decode cX12_cover 28 = .ok (.invokevirtual 496, 3) := by decide +kernel
theorem dX12_cover_31 : decode cX12_cover 31 = .ok (.iconst (-1), 1) := by decide +kernel
theorem dX12_cover_32 : decode cX12_cover 32 = .ok (.istore_n 3, 1) := by decide +kernel
theorem dX12_cover_33 : decode cX12_cover 33 = .ok (.iconst 0, 1) := by decide +kernel
theorem dX12_cover_34 : decode cX12_cover 34 = .ok (.istore 4, 2) := by decide +kernel
theorem dX12_cover_36 : decode cX12_cover 36 = .ok (.iload 4, 2) := by decide +kernel
theorem dX12_cover_38 : decode cX12_cover 38 = .ok (.iconst 1, 1) := by decide +kernel
theorem dX12_cover_39 : decode cX12_cover 39 = .ok (.aload_n 0, 1) := by decide +kernel
theorem dX12_cover_40 : decode cX12_cover 40 = .ok (.getfield 401, 3) := by decide +kernel
theorem dX12_cover_43 : decode cX12_cover 43 = .ok (.ishl, 1) := by decide +kernel
theorem dX12_cover_44 : decode cX12_cover 44 = .ok (.if_icmp .ge 122, 3) := by decide +kernel
theorem dX12_cover_47 : decode cX12_cover 47 = .ok (.iconst 0, 1) := by decide +kernel
theorem dX12_cover_48 : decode cX12_cover 48 = .ok (.istore 5, 2) := by decide +kernel
theorem dX12_cover_50 : decode cX12_cover 50 = .ok (.iconst 1, 1) := by decide +kernel
theorem dX12_cover_51 : decode cX12_cover 51 = .ok (.istore 6, 2) := by decide +kernel
theorem dX12_cover_53 : decode cX12_cover 53 = .ok (.iconst 0, 1) := by decide +kernel
theorem dX12_cover_54 : decode cX12_cover 54 = .ok (.istore 7, 2) := by decide +kernel
theorem dX12_cover_56 : decode cX12_cover 56 = .ok (.iload 7, 2) := by decide +kernel
theorem dX12_cover_58 : decode cX12_cover 58 = .ok (.aload_n 0, 1) := by decide +kernel
theorem dX12_cover_59 : decode cX12_cover 59 = .ok (.getfield 401, 3) := by decide +kernel
theorem dX12_cover_62 : decode cX12_cover 62 = .ok (.if_icmp .ge 65, 3) := by decide +kernel
theorem dX12_cover_65 : decode cX12_cover 65 = .ok (.iload 4, 2) := by decide +kernel
theorem dX12_cover_67 : decode cX12_cover 67 = .ok (.iload 7, 2) := by decide +kernel
theorem dX12_cover_69 : decode cX12_cover 69 = .ok (.ishr, 1) := by decide +kernel
theorem dX12_cover_70 : decode cX12_cover 70 = .ok (.iconst 1, 1) := by decide +kernel
theorem dX12_cover_71 : decode cX12_cover 71 = .ok (.iand, 1) := by decide +kernel
theorem dX12_cover_72 : decode cX12_cover 72 = .ok (.ifCond .ne 6, 3) := by decide +kernel
theorem dX12_cover_75 : decode cX12_cover 75 = .ok (.goto 46, 3) := by decide +kernel
theorem dX12_cover_78 : decode cX12_cover 78 = .ok (.iload 6, 2) := by decide +kernel
theorem dX12_cover_80 : decode cX12_cover 80 = .ok (.ifCond .eq 18, 3) := by decide +kernel
theorem dX12_cover_83 : decode cX12_cover 83 = .ok (.aload_n 0, 1) := by decide +kernel
theorem dX12_cover_84 : decode cX12_cover 84 = .ok (.getfield 102, 3) := by decide +kernel
theorem dX12_cover_87 : decode cX12_cover 87 = .ok (.iload 7, 2) := by decide +kernel
theorem dX12_cover_89 : decode cX12_cover 89 = .ok (.iaload, 1) := by decide +kernel
theorem dX12_cover_90 : decode cX12_cover 90 = .ok (.iconst 1, 1) := by decide +kernel
theorem dX12_cover_91 : decode cX12_cover 91 = .ok (.if_icmp .ne 7, 3) := by decide +kernel
theorem dX12_cover_94 : decode cX12_cover 94 = .ok (.iconst 1, 1) := by decide +kernel
theorem dX12_cover_95 : decode cX12_cover 95 = .ok (.goto 4, 3) := by decide +kernel
theorem dX12_cover_98 : decode cX12_cover 98 = .ok (.iconst 0, 1) := by decide +kernel
theorem dX12_cover_99 : decode cX12_cover 99 = .ok (.istore 6, 2) := by decide +kernel
theorem dX12_cover_101 : decode cX12_cover 101 = .ok (.iload 5, 2) := by decide +kernel
theorem dX12_cover_103 : decode cX12_cover 103 = .ok (.iload 6, 2) := by decide +kernel
theorem dX12_cover_105 : decode cX12_cover 105 = .ok (.ifCond .eq 12, 3) := by decide +kernel
theorem dX12_cover_108 : decode cX12_cover 108 = .ok (.aload_n 0, 1) := by decide +kernel
theorem dX12_cover_109 : decode cX12_cover 109 = .ok (.iload 7, 2) := by decide +kernel
theorem dX12_cover_111 : decode cX12_cover 111 = .ok (.invokevirtual 463, 3) := by decide +kernel
theorem dX12_cover_114 : decode cX12_cover 114 = .ok (.goto 4, 3) := by decide +kernel
theorem dX12_cover_117 : decode cX12_cover 117 = .ok (.iconst 0, 1) := by decide +kernel
theorem dX12_cover_118 : decode cX12_cover 118 = .ok (.ior, 1) := by decide +kernel
theorem dX12_cover_119 : decode cX12_cover 119 = .ok (.istore 5, 2) := by decide +kernel
theorem dX12_cover_121 : decode cX12_cover 121 = .ok (.iinc 7 1, 3) := by decide +kernel
theorem dX12_cover_124 : decode cX12_cover 124 = .ok (.goto (-68), 3) := by decide +kernel
theorem dX12_cover_127 : decode cX12_cover 127 = .ok (.iload 6, 2) := by decide +kernel
theorem dX12_cover_129 : decode cX12_cover 129 = .ok (.ifCond .eq 31, 3) := by decide +kernel
theorem dX12_cover_132 : decode cX12_cover 132 = .ok (.iload_n 1, 1) := by decide +kernel
theorem dX12_cover_133 : decode cX12_cover 133 = .ok (.iload 5, 2) := by decide +kernel
theorem dX12_cover_135 : decode cX12_cover 135 = .ok (.iconst (-1), 1) := by decide +kernel
theorem dX12_cover_136 : decode cX12_cover 136 = .ok (.ixor, 1) := by decide +kernel
theorem dX12_cover_137 : decode cX12_cover 137 = .ok (.iand, 1) := by decide +kernel
theorem dX12_cover_138 : decode cX12_cover 138 = .ok (.ifCond .ne 22, 3) := by decide +kernel
theorem dX12_cover_141 : decode cX12_cover 141 = .ok (.iload_n 3, 1) := by decide +kernel
theorem dX12_cover_142 : decode cX12_cover 142 = .ok (.ifCond .lt 15, 3) := by decide +kernel
theorem dX12_cover_145 : decode cX12_cover 145 = .ok (.iload 4, 2) := by decide +kernel
theorem dX12_cover_147 : decode cX12_cover 147 = .ok (.invokestatic 535, 3) := by decide +kernel
theorem dX12_cover_150 : decode cX12_cover 150 = .ok (.iload_n 3, 1) := by decide +kernel
theorem dX12_cover_151 : decode cX12_cover 151 = .ok (.invokestatic 535, 3) := by decide +kernel
theorem dX12_cover_154 : decode cX12_cover 154 = .ok (.if_icmp .ge 6, 3) := by decide +kernel
theorem dX12_cover_157 : decode cX12_cover 157 = .ok (.iload 4, 2) := by decide +kernel
theorem dX12_cover_159 : decode cX12_cover 159 = .ok (.istore_n 3, 1) := by decide +kernel
theorem dX12_cover_160 : decode cX12_cover 160 = .ok (.iinc 4 1, 3) := by decide +kernel
theorem dX12_cover_163 : decode cX12_cover 163 = .ok (.goto (-127), 3) := by decide +kernel
theorem dX12_cover_166 : decode cX12_cover 166 = .ok (.iload_n 3, 1) := by decide +kernel
theorem dX12_cover_167 : decode cX12_cover 167 = .ok (.ifCond .ge 7, 3) := by decide +kernel
theorem dX12_cover_170 : decode cX12_cover 170 = .ok (.iconst (-1), 1) := by decide +kernel
theorem dX12_cover_171 : decode cX12_cover 171 = .ok (.goto 15, 3) := by decide +kernel
theorem dX12_cover_174 : decode cX12_cover 174 = .ok (.iload_n 2, 1) := by decide +kernel
theorem dX12_cover_175 : decode cX12_cover 175 = .ok (.ifCond .ne 10, 3) := by decide +kernel
theorem dX12_cover_178 : decode cX12_cover 178 = .ok (.iload_n 3, 1) := by decide +kernel
theorem dX12_cover_179 : decode cX12_cover 179 = .ok (.invokestatic 535, 3) := by decide +kernel
theorem dX12_cover_182 : decode cX12_cover 182 = .ok (.goto 4, 3) := by decide +kernel
theorem dX12_cover_185 : decode cX12_cover 185 = .ok (.iload_n 3, 1) := by decide +kernel
theorem dX12_cover_186 : decode cX12_cover 186 = .ok (.ireturn, 1) := by decide +kernel
theorem dX12_laySoon_0 : decode cX12_laySoon 0 = .ok (.aload_n 0, 1) := by decide +kernel
theorem dX12_laySoon_1 : decode cX12_laySoon 1 = .ok (.invokevirtual 496, 3) := by decide +kernel
theorem dX12_laySoon_4 : decode cX12_laySoon 4 = .ok (.iconst 0, 1) := by decide +kernel
theorem dX12_laySoon_5 : decode cX12_laySoon 5 = .ok (.istore_n 2, 1) := by decide +kernel
theorem dX12_laySoon_6 : decode cX12_laySoon 6 = .ok (.iload_n 2, 1) := by decide +kernel
theorem dX12_laySoon_7 : decode cX12_laySoon 7 = .ok (.bipush 7, 2) := by decide +kernel
theorem dX12_laySoon_9 : decode cX12_laySoon 9 = .ok (.if_icmp .ge 33, 3) := by decide +kernel
theorem dX12_laySoon_12 : decode cX12_laySoon 12 = .ok (.aload_n 0, 1) := by decide +kernel
theorem dX12_laySoon_13 : decode cX12_laySoon 13 = .ok (.getfield 117, 3) := by decide +kernel
theorem dX12_laySoon_16 : decode cX12_laySoon 16 = .ok (.iload_n 2, 1) := by decide +kernel
theorem dX12_laySoon_17 : decode cX12_laySoon 17 = .ok (.iload_n 2, 1) := by decide +kernel
theorem dX12_laySoon_18 : decode cX12_laySoon 18 = .ok (.iload_n 1, 1) := by decide +kernel
theorem dX12_laySoon_19 : decode cX12_laySoon 19 = .ok (.if_icmp .ne 13, 3) := by decide +kernel
theorem dX12_laySoon_22 : decode cX12_laySoon 22 = .ok (.aload_n 0, 1) := by decide +kernel
theorem dX12_laySoon_23 : decode cX12_laySoon 23 = .ok (.getfield 102, 3) := by decide +kernel
theorem dX12_laySoon_26 : decode cX12_laySoon 26 = .ok (.bipush 90, 2) := by decide +kernel
theorem dX12_laySoon_28 : decode cX12_laySoon 28 = .ok (.iaload, 1) := by decide +kernel
theorem dX12_laySoon_29 : decode cX12_laySoon 29 = .ok (.goto 6, 3) := by decide +kernel
theorem dX12_laySoon_32 : decode cX12_laySoon 32 = .ok (.sipush 300, 3) := by decide +kernel
theorem dX12_laySoon_35 : decode cX12_laySoon 35 = .ok (.iastore, 1) := by decide +kernel
theorem dX12_laySoon_36 : decode cX12_laySoon 36 = .ok (.iinc 2 1, 3) := by decide +kernel
theorem dX12_laySoon_39 : decode cX12_laySoon 39 = .ok (.goto (-33), 3) := by decide +kernel
theorem dX12_laySoon_42 : decode cX12_laySoon 42 = .ok (.iconst 0, 1) := by decide +kernel
theorem dX12_laySoon_43 : decode cX12_laySoon 43 = .ok (.istore_n 2, 1) := by decide +kernel
theorem dX12_laySoon_44 : decode cX12_laySoon 44 = .ok (.aload_n 0, 1) := by decide +kernel
theorem dX12_laySoon_45 : decode cX12_laySoon 45 = .ok (.getfield 102, 3) := by decide +kernel
theorem dX12_laySoon_48 : decode cX12_laySoon 48 = .ok (.bipush 90, 2) := by decide +kernel
theorem dX12_laySoon_50 : decode cX12_laySoon 50 = .ok (.iaload, 1) := by decide +kernel
theorem dX12_laySoon_51 : decode cX12_laySoon 51 = .ok (.sipush 300, 3) := by decide +kernel
theorem dX12_laySoon_54 : decode cX12_laySoon 54 = .ok (.if_icmp .ge 152, 3) := by decide +kernel
theorem dX12_laySoon_57 : decode cX12_laySoon 57 = .ok (.aload_n 0, 1) := by decide +kernel
theorem dX12_laySoon_58 : decode cX12_laySoon 58 = .ok (.invokevirtual 481, 3) := by decide +kernel
theorem dX12_laySoon_61 : decode cX12_laySoon 61 = .ok (.iconst 0, 1) := by decide +kernel
theorem dX12_laySoon_62 : decode cX12_laySoon 62 = .ok (.istore_n 3, 1) := by decide +kernel
theorem dX12_laySoon_63 : decode cX12_laySoon 63 = .ok (.iload_n 3, 1) := by decide +kernel
theorem dX12_laySoon_64 : decode cX12_laySoon 64 = .ok (.aload_n 0, 1) := by decide +kernel
theorem dX12_laySoon_65 : decode cX12_laySoon 65 = .ok (.getfield 401, 3) := by decide +kernel
theorem dX12_laySoon_68 : decode cX12_laySoon 68 = .ok (.if_icmp .ge 79, 3) := by decide +kernel
theorem dX12_laySoon_71 : decode cX12_laySoon 71 = .ok (.iload_n 2, 1) := by decide +kernel
theorem dX12_laySoon_72 : decode cX12_laySoon 72 = .ok (.iload_n 3, 1) := by decide +kernel
theorem dX12_laySoon_73 : decode cX12_laySoon 73 = .ok (.ishr, 1) := by decide +kernel
theorem dX12_laySoon_74 : decode cX12_laySoon 74 = .ok (.iconst 1, 1) := by decide +kernel
theorem dX12_laySoon_75 : decode cX12_laySoon 75 = .ok (.iand, 1) := by decide +kernel
theorem dX12_laySoon_76 : decode cX12_laySoon 76 = .ok (.iconst 1, 1) := by decide +kernel
theorem dX12_laySoon_77 : decode cX12_laySoon 77 = .ok (.if_icmp .ne 64, 3) := by decide +kernel
theorem dX12_laySoon_80 : decode cX12_laySoon 80 = .ok (.aload_n 0, 1) := by decide +kernel
theorem dX12_laySoon_81 : decode cX12_laySoon 81 = .ok (.getfield 102, 3) := by decide +kernel
theorem dX12_laySoon_84 : decode cX12_laySoon 84 = .ok (.iload_n 3, 1) := by decide +kernel
theorem dX12_laySoon_85 : decode cX12_laySoon 85 = .ok (.iaload, 1) := by decide +kernel
theorem dX12_laySoon_86 : decode cX12_laySoon 86 = .ok (.iconst 1, 1) := by decide +kernel
theorem dX12_laySoon_87 : decode cX12_laySoon 87 = .ok (.if_icmp .eq 13, 3) := by decide +kernel
theorem dX12_laySoon_90 : decode cX12_laySoon 90 = .ok (.aload_n 0, 1) := by decide +kernel
theorem dX12_laySoon_91 : decode cX12_laySoon 91 = .ok (.getfield 102, 3) := by decide +kernel
theorem dX12_laySoon_94 : decode cX12_laySoon 94 = .ok (.iload_n 3, 1) := by decide +kernel
theorem dX12_laySoon_95 : decode cX12_laySoon 95 = .ok (.iaload, 1) := by decide +kernel
theorem dX12_laySoon_96 : decode cX12_laySoon 96 = .ok (.iconst 3, 1) := by decide +kernel
theorem dX12_laySoon_97 : decode cX12_laySoon 97 = .ok (.if_icmp .ne 44, 3) := by decide +kernel
theorem dX12_laySoon_100 : decode cX12_laySoon 100 = .ok (.aload_n 0, 1) := by decide +kernel
theorem dX12_laySoon_101 : decode cX12_laySoon 101 = .ok (.getfield 117, 3) := by decide +kernel
theorem dX12_laySoon_104 : decode cX12_laySoon 104 = .ok (.aload_n 0, 1) := by decide +kernel
theorem dX12_laySoon_105 : decode cX12_laySoon 105 = .ok (.getfield 102, 3) := by decide +kernel
theorem dX12_laySoon_108 : decode cX12_laySoon 108 = .ok (.bipush 6, 2) := by decide +kernel
theorem dX12_laySoon_110 : decode cX12_laySoon 110 = .ok (.iload_n 3, 1) := by decide +kernel
theorem dX12_laySoon_111 : decode cX12_laySoon 111 = .ok (.iadd, 1) := by decide +kernel
theorem dX12_laySoon_112 : decode cX12_laySoon 112 = .ok (.iaload, 1) := by decide +kernel
theorem dX12_laySoon_113 : decode cX12_laySoon 113 = .ok (.iaload, 1) := by decide +kernel
theorem dX12_laySoon_114 : decode cX12_laySoon 114 = .ok (.sipush 300, 3) := by decide +kernel
theorem dX12_laySoon_117 : decode cX12_laySoon 117 = .ok (.if_icmp .ne 24, 3) := by decide +kernel
theorem dX12_laySoon_120 : decode cX12_laySoon 120 = .ok (.aload_n 0, 1) := by decide +kernel
theorem dX12_laySoon_121 : decode cX12_laySoon 121 = .ok (.getfield 117, 3) := by decide +kernel
theorem dX12_laySoon_124 : decode cX12_laySoon 124 = .ok (.aload_n 0, 1) := by decide +kernel
theorem dX12_laySoon_125 : decode cX12_laySoon 125 = .ok (.getfield 102, 3) := by decide +kernel
theorem dX12_laySoon_128 : decode cX12_laySoon 128 = .ok (.bipush 6, 2) := by decide +kernel
theorem dX12_laySoon_130 : decode cX12_laySoon 130 = .ok (.iload_n 3, 1) := by decide +kernel
theorem dX12_laySoon_131 : decode cX12_laySoon 131 = .ok (.iadd, 1) := by decide +kernel
theorem dX12_laySoon_132 : decode cX12_laySoon 132 = .ok (.iaload, 1) := by decide +kernel
theorem dX12_laySoon_133 : decode cX12_laySoon 133 = .ok (.aload_n 0, 1) := by decide +kernel
theorem dX12_laySoon_134 : decode cX12_laySoon 134 = .ok (.getfield 102, 3) := by decide +kernel
theorem dX12_laySoon_137 : decode cX12_laySoon 137 = .ok (.bipush 90, 2) := by decide +kernel
theorem dX12_laySoon_139 : decode cX12_laySoon 139 = .ok (.iaload, 1) := by decide +kernel
theorem dX12_laySoon_140 : decode cX12_laySoon 140 = .ok (.iastore, 1) := by decide +kernel
theorem dX12_laySoon_141 : decode cX12_laySoon 141 = .ok (.iinc 3 1, 3) := by decide +kernel
theorem dX12_laySoon_144 : decode cX12_laySoon 144 = .ok (.goto (-81), 3) := by decide +kernel
theorem dX12_laySoon_147 : decode cX12_laySoon 147 = .ok (.iconst 0, 1) := by decide +kernel
theorem dX12_laySoon_148 : decode cX12_laySoon 148 = .ok (.istore_n 3, 1) := by decide +kernel
theorem dX12_laySoon_149 : decode cX12_laySoon 149 = .ok (.iload_n 3, 1) := by decide +kernel
theorem dX12_laySoon_150 : decode cX12_laySoon 150 = .ok (.aload_n 0, 1) := by decide +kernel
theorem dX12_laySoon_151 : decode cX12_laySoon 151 = .ok (.getfield 401, 3) := by decide +kernel
theorem dX12_laySoon_154 : decode cX12_laySoon 154 = .ok (.if_icmp .ge 45, 3) := by decide +kernel
theorem dX12_laySoon_157 : decode cX12_laySoon 157 = .ok (.aload_n 0, 1) := by decide +kernel
theorem dX12_laySoon_158 : decode cX12_laySoon 158 = .ok (.getfield 102, 3) := by decide +kernel
theorem dX12_laySoon_161 : decode cX12_laySoon 161 = .ok (.iload_n 3, 1) := by decide +kernel
theorem dX12_laySoon_162 : decode cX12_laySoon 162 = .ok (.iaload, 1) := by decide +kernel
theorem dX12_laySoon_163 : decode cX12_laySoon 163 = .ok (.iconst 1, 1) := by decide +kernel
theorem dX12_laySoon_164 : decode cX12_laySoon 164 = .ok (.if_icmp .ne 29, 3) := by decide +kernel
theorem dX12_laySoon_167 : decode cX12_laySoon 167 = .ok (.aload_n 0, 1) := by decide +kernel
theorem dX12_laySoon_168 : decode cX12_laySoon 168 = .ok (.getfield 117, 3) := by decide +kernel
theorem dX12_laySoon_171 : decode cX12_laySoon 171 = .ok (.aload_n 0, 1) := by decide +kernel
theorem dX12_laySoon_172 : decode cX12_laySoon 172 = .ok (.getfield 102, 3) := by decide +kernel
theorem dX12_laySoon_175 : decode cX12_laySoon 175 = .ok (.bipush 6, 2) := by decide +kernel
theorem dX12_laySoon_177 : decode cX12_laySoon 177 = .ok (.iload_n 3, 1) := by decide +kernel
theorem dX12_laySoon_178 : decode cX12_laySoon 178 = .ok (.iadd, 1) := by decide +kernel
theorem dX12_laySoon_179 : decode cX12_laySoon 179 = .ok (.iaload, 1) := by decide +kernel
theorem dX12_laySoon_180 : decode cX12_laySoon 180 = .ok (.iaload, 1) := by decide +kernel
theorem dX12_laySoon_181 : decode cX12_laySoon 181 = .ok (.sipush 300, 3) := by decide +kernel
theorem dX12_laySoon_184 : decode cX12_laySoon 184 = .ok (.if_icmp .ge 9, 3) := by decide +kernel
theorem dX12_laySoon_187 : decode cX12_laySoon 187 = .ok (.iload_n 2, 1) := by decide +kernel
theorem dX12_laySoon_188 : decode cX12_laySoon 188 = .ok (.iconst 1, 1) := by decide +kernel
theorem dX12_laySoon_189 : decode cX12_laySoon 189 = .ok (.iload_n 3, 1) := by decide +kernel
theorem dX12_laySoon_190 : decode cX12_laySoon 190 = .ok (.ishl, 1) := by decide +kernel
theorem dX12_laySoon_191 : decode cX12_laySoon 191 = .ok (.ior, 1) := by decide +kernel
theorem dX12_laySoon_192 : decode cX12_laySoon 192 = .ok (.istore_n 2, 1) := by decide +kernel
theorem dX12_laySoon_193 : decode cX12_laySoon 193 = .ok (.iinc 3 1, 3) := by decide +kernel
theorem dX12_laySoon_196 : decode cX12_laySoon 196 = .ok (.goto (-47), 3) := by decide +kernel
theorem dX12_laySoon_199 : decode cX12_laySoon 199 = .ok (.aload_n 0, 1) := by decide +kernel
theorem dX12_laySoon_200 : decode cX12_laySoon 200 = .ok (.invokevirtual 490, 3) := by decide +kernel
theorem dX12_laySoon_203 : decode cX12_laySoon 203 = .ok (.goto (-159), 3) := by decide +kernel
theorem dX12_laySoon_206 : decode cX12_laySoon 206 = .ok (.return_, 1) := by decide +kernel
theorem dX12_soon_0 : decode cX12_soon 0 = .ok (.aload_n 0, 1) := by decide +kernel
theorem dX12_soon_1 : decode cX12_soon 1 = .ok (.iload_n 1, 1) := by decide +kernel
theorem dX12_soon_2 : decode cX12_soon 2 = .ok (.invokevirtual 502, 3) := by decide +kernel
theorem dX12_soon_5 : decode cX12_soon 5 = .ok (.ifCond .eq 11, 3) := by decide +kernel
theorem dX12_soon_8 : decode cX12_soon 8 = .ok (.aload_n 0, 1) := by decide +kernel
theorem dX12_soon_9 : decode cX12_soon 9 = .ok (.iload_n 2, 1) := by decide +kernel
theorem dX12_soon_10 : decode cX12_soon 10 = .ok (.invokevirtual 502, 3) := by decide +kernel
theorem dX12_soon_13 : decode cX12_soon 13 = .ok (.ifCond .ne 5, 3) := by decide +kernel
theorem dX12_soon_16 : decode cX12_soon 16 = .ok (.iconst (-1), 1) := by decide +kernel
theorem dX12_soon_17 : decode cX12_soon 17 = .ok (.ireturn, 1) := by decide +kernel
theorem dX12_soon_18 : decode cX12_soon 18 = .ok (.aload_n 0, 1) := by decide +kernel
theorem dX12_soon_19 : decode cX12_soon 19 = .ok (.iload_n 1, 1) := by decide +kernel
theorem dX12_soon_20 : decode cX12_soon 20 = .ok (.invokevirtual 541, 3) := by decide +kernel
theorem dX12_soon_23 : decode cX12_soon 23 = .ok (.iload_n 1, 1) := by decide +kernel
theorem dX12_soon_24 : decode cX12_soon 24 = .ok (.iload_n 2, 1) := by decide +kernel
theorem dX12_soon_25 : decode cX12_soon 25 = .ok (.if_icmp .eq 15, 3) := by decide +kernel
theorem dX12_soon_28 : decode cX12_soon 28 = .ok (.aload_n 0, 1) := by decide +kernel
theorem dX12_soon_29 : decode cX12_soon 29 = .ok (.getfield 117, 3) := by decide +kernel
theorem dX12_soon_32 : decode cX12_soon 32 = .ok (.iload_n 2, 1) := by decide +kernel
theorem dX12_soon_33 : decode cX12_soon 33 = .ok (.iaload, 1) := by decide +kernel
theorem dX12_soon_34 : decode cX12_soon 34 = .ok (.sipush 300, 3) := by decide +kernel
theorem dX12_soon_37 : decode cX12_soon 37 = .ok (.if_icmp .ge 12, 3) := by decide +kernel
theorem dX12_soon_40 : decode cX12_soon 40 = .ok (.aload_n 0, 1) := by decide +kernel
theorem dX12_soon_41 : decode cX12_soon 41 = .ok (.getfield 117, 3) := by decide +kernel
theorem dX12_soon_44 : decode cX12_soon 44 = .ok (.iload_n 2, 1) := by decide +kernel
theorem dX12_soon_45 : decode cX12_soon 45 = .ok (.iaload, 1) := by decide +kernel
theorem dX12_soon_46 : decode cX12_soon 46 = .ok (.goto 4, 3) := by decide +kernel
theorem dX12_soon_49 : decode cX12_soon 49 = .ok (.iconst (-1), 1) := by decide +kernel
theorem dX12_soon_50 : decode cX12_soon 50 = .ok (.ireturn, 1) := by decide +kernel
theorem dX12_heard_0 : decode cX12_heard 0 = .ok (.aload_n 0, 1) := by decide +kernel
theorem dX12_heard_1 : decode cX12_heard 1 = .ok (.iload_n 1, 1) := by decide +kernel
theorem dX12_heard_2 : decode cX12_heard 2 = .ok (.invokevirtual 502, 3) := by decide +kernel
theorem dX12_heard_5 : decode cX12_heard 5 = .ok (.ifCond .ne 5, 3) := by decide +kernel
theorem dX12_heard_8 : decode cX12_heard 8 = .ok (.iconst (-1), 1) := by decide +kernel
theorem dX12_heard_9 : decode cX12_heard 9 = .ok (.ireturn, 1) := by decide +kernel
theorem dX12_heard_10 : decode cX12_heard 10 = .ok (.aload_n 0, 1) := by decide +kernel
theorem dX12_heard_11 : decode cX12_heard 11 = .ok (.iload_n 1, 1) := by decide +kernel
theorem dX12_heard_12 : decode cX12_heard 12 = .ok (.invokevirtual 541, 3) := by decide +kernel
theorem dX12_heard_15 : decode cX12_heard 15 = .ok (.aload_n 0, 1) := by decide +kernel
theorem dX12_heard_16 : decode cX12_heard 16 = .ok (.getfield 99, 3) := by decide +kernel
theorem dX12_heard_19 : decode cX12_heard 19 = .ok (.bipush 90, 2) := by decide +kernel
theorem dX12_heard_21 : decode cX12_heard 21 = .ok (.iaload, 1) := by decide +kernel
theorem dX12_heard_22 : decode cX12_heard 22 = .ok (.istore_n 2, 1) := by decide +kernel
theorem dX12_heard_23 : decode cX12_heard 23 = .ok (.iconst 0, 1) := by decide +kernel
theorem dX12_heard_24 : decode cX12_heard 24 = .ok (.istore_n 3, 1) := by decide +kernel
theorem dX12_heard_25 : decode cX12_heard 25 = .ok (.iload_n 3, 1) := by decide +kernel
theorem dX12_heard_26 : decode cX12_heard 26 = .ok (.aload_n 0, 1) := by decide +kernel
theorem dX12_heard_27 : decode cX12_heard 27 = .ok (.getfield 395, 3) := by decide +kernel
theorem dX12_heard_30 : decode cX12_heard 30 = .ok (.if_icmp .ge 38, 3) := by decide +kernel
theorem dX12_heard_33 : decode cX12_heard 33 = .ok (.aload_n 0, 1) := by decide +kernel
theorem dX12_heard_34 : decode cX12_heard 34 = .ok (.getfield 117, 3) := by decide +kernel
theorem dX12_heard_37 : decode cX12_heard 37 = .ok (.iload_n 3, 1) := by decide +kernel
theorem dX12_heard_38 : decode cX12_heard 38 = .ok (.iaload, 1) := by decide +kernel
theorem dX12_heard_39 : decode cX12_heard 39 = .ok (.sipush 300, 3) := by decide +kernel
theorem dX12_heard_42 : decode cX12_heard 42 = .ok (.if_icmp .ge 20, 3) := by decide +kernel
theorem dX12_heard_45 : decode cX12_heard 45 = .ok (.aload_n 0, 1) := by decide +kernel
theorem dX12_heard_46 : decode cX12_heard 46 = .ok (.getfield 117, 3) := by decide +kernel
theorem dX12_heard_49 : decode cX12_heard 49 = .ok (.iload_n 3, 1) := by decide +kernel
theorem dX12_heard_50 : decode cX12_heard 50 = .ok (.iaload, 1) := by decide +kernel
theorem dX12_heard_51 : decode cX12_heard 51 = .ok (.iload_n 2, 1) := by decide +kernel
theorem dX12_heard_52 : decode cX12_heard 52 = .ok (.if_icmp .le 10, 3) := by decide +kernel
theorem dX12_heard_55 : decode cX12_heard 55 = .ok (.aload_n 0, 1) := by decide +kernel
theorem dX12_heard_56 : decode cX12_heard 56 = .ok (.getfield 117, 3) := by decide +kernel
theorem dX12_heard_59 : decode cX12_heard 59 = .ok (.iload_n 3, 1) := by decide +kernel
theorem dX12_heard_60 : decode cX12_heard 60 = .ok (.iaload, 1) := by decide +kernel
theorem dX12_heard_61 : decode cX12_heard 61 = .ok (.istore_n 2, 1) := by decide +kernel
theorem dX12_heard_62 : decode cX12_heard 62 = .ok (.iinc 3 1, 3) := by decide +kernel
theorem dX12_heard_65 : decode cX12_heard 65 = .ok (.goto (-40), 3) := by decide +kernel
theorem dX12_heard_68 : decode cX12_heard 68 = .ok (.iload_n 2, 1) := by decide +kernel
theorem dX12_heard_69 : decode cX12_heard 69 = .ok (.ireturn, 1) := by decide +kernel
theorem dX12_deaf_0 : decode cX12_deaf 0 = .ok (.aload_n 0, 1) := by decide +kernel
theorem dX12_deaf_1 : decode cX12_deaf 1 = .ok (.iload_n 1, 1) := by decide +kernel
theorem dX12_deaf_2 : decode cX12_deaf 2 = .ok (.invokevirtual 502, 3) := by decide +kernel
theorem dX12_deaf_5 : decode cX12_deaf 5 = .ok (.ifCond .ne 5, 3) := by decide +kernel
theorem dX12_deaf_8 : decode cX12_deaf 8 = .ok (.iconst (-1), 1) := by decide +kernel
theorem dX12_deaf_9 : decode cX12_deaf 9 = .ok (.ireturn, 1) := by decide +kernel
theorem dX12_deaf_10 : decode cX12_deaf 10 = .ok (.aload_n 0, 1) := by decide +kernel
theorem dX12_deaf_11 : decode cX12_deaf 11 = .ok (.iload_n 1, 1) := by decide +kernel
theorem dX12_deaf_12 : decode cX12_deaf 12 = .ok (.invokevirtual 541, 3) := by decide +kernel
theorem dX12_deaf_15 : decode cX12_deaf 15 = .ok (.iconst 0, 1) := by decide +kernel
theorem dX12_deaf_16 : decode cX12_deaf 16 = .ok (.istore_n 2, 1) := by decide +kernel
theorem dX12_deaf_17 : decode cX12_deaf 17 = .ok (.iconst 0, 1) := by decide +kernel
theorem dX12_deaf_18 : decode cX12_deaf 18 = .ok (.istore_n 3, 1) := by decide +kernel
theorem dX12_deaf_19 : decode cX12_deaf 19 = .ok (.iload_n 3, 1) := by decide +kernel
theorem dX12_deaf_20 : decode cX12_deaf 20 = .ok (.aload_n 0, 1) := by decide +kernel
theorem dX12_deaf_21 : decode cX12_deaf 21 = .ok (.getfield 395, 3) := by decide +kernel
theorem dX12_deaf_24 : decode cX12_deaf 24 = .ok (.if_icmp .ge 39, 3) := by decide +kernel
theorem dX12_deaf_27 : decode cX12_deaf 27 = .ok (.iload_n 2, 1) := by decide +kernel
theorem dX12_deaf_28 : decode cX12_deaf 28 = .ok (.iload_n 3, 1) := by decide +kernel
theorem dX12_deaf_29 : decode cX12_deaf 29 = .ok (.iload_n 1, 1) := by decide +kernel
theorem dX12_deaf_30 : decode cX12_deaf 30 = .ok (.if_icmp .eq 19, 3) := by decide +kernel
theorem dX12_deaf_33 : decode cX12_deaf 33 = .ok (.aload_n 0, 1) := by decide +kernel
theorem dX12_deaf_34 : decode cX12_deaf 34 = .ok (.getfield 117, 3) := by decide +kernel
theorem dX12_deaf_37 : decode cX12_deaf 37 = .ok (.iload_n 3, 1) := by decide +kernel
theorem dX12_deaf_38 : decode cX12_deaf 38 = .ok (.iaload, 1) := by decide +kernel
theorem dX12_deaf_39 : decode cX12_deaf 39 = .ok (.sipush 300, 3) := by decide +kernel
theorem dX12_deaf_42 : decode cX12_deaf 42 = .ok (.if_icmp .ne 7, 3) := by decide +kernel
theorem dX12_deaf_45 : decode cX12_deaf 45 = .ok (.iconst 1, 1) := by decide +kernel
theorem dX12_deaf_46 : decode cX12_deaf 46 = .ok (.goto 4, 3) := by decide +kernel
theorem dX12_deaf_49 : decode cX12_deaf 49 = .ok (.iconst 0, 1) := by decide +kernel
theorem dX12_deaf_50 : decode cX12_deaf 50 = .ok (.invokestatic 317, 3) := by decide +kernel
theorem dX12_deaf_53 : decode cX12_deaf 53 = .ok (.iload_n 3, 1) := by decide +kernel
theorem dX12_deaf_54 : decode cX12_deaf 54 = .ok (.ishl, 1) := by decide +kernel
theorem dX12_deaf_55 : decode cX12_deaf 55 = .ok (.ior, 1) := by decide +kernel
theorem dX12_deaf_56 : decode cX12_deaf 56 = .ok (.istore_n 2, 1) := by decide +kernel
theorem dX12_deaf_57 : decode cX12_deaf 57 = .ok (.iinc 3 1, 3) := by decide +kernel
theorem dX12_deaf_60 : decode cX12_deaf 60 = .ok (.goto (-41), 3) := by decide +kernel
theorem dX12_deaf_63 : decode cX12_deaf 63 = .ok (.iload_n 2, 1) := by decide +kernel
theorem dX12_deaf_64 : decode cX12_deaf 64 = .ok (.ireturn, 1) := by decide +kernel
theorem dX12_bars_0 : decode cX12_bars 0 = .ok (.aload_n 0, 1) := by decide +kernel
theorem dX12_bars_1 : decode cX12_bars 1 = .ok (.iload_n 1, 1) := by decide +kernel
theorem dX12_bars_2 : decode cX12_bars 2 = .ok (.invokevirtual 502, 3) := by decide +kernel
theorem dX12_bars_5 : decode cX12_bars 5 = .ok (.ifCond .eq 25, 3) := by decide +kernel
theorem dX12_bars_8 : decode cX12_bars 8 = .ok (.aload_n 0, 1) := by decide +kernel
theorem dX12_bars_9 : decode cX12_bars 9 = .ok (.iload_n 2, 1) := by decide +kernel
theorem dX12_bars_10 : decode cX12_bars 10 = .ok (.invokevirtual 502, 3) := by decide +kernel
theorem dX12_bars_13 : decode cX12_bars 13 = .ok (.ifCond .eq 17, 3) := by decide +kernel
theorem dX12_bars_16 : decode cX12_bars 16 = .ok (.iload_n 1, 1) := by decide +kernel
theorem dX12_bars_17 : decode cX12_bars 17 = .ok (.iload_n 2, 1) := by decide +kernel
theorem dX12_bars_18 : decode cX12_bars 18 = .ok (.if_icmp .eq 12, 3) := by decide +kernel
theorem dX12_bars_21 : decode cX12_bars 21 = .ok (.iload_n 3, 1) := by decide +kernel
theorem dX12_bars_22 : decode cX12_bars 22 = .ok (.iconst 0, 1) := by decide +kernel
theorem dX12_bars_23 : decode cX12_bars 23 = .ok (.iconst 1, 1) := by decide +kernel
theorem dX12_bars_24 : decode cX12_bars 24 = .ok (.invokestatic 426, 3) := by decide +kernel
theorem dX12_bars_27 : decode cX12_bars 27 = .ok (.ifCond .ne 5, 3) := by decide +kernel
theorem dX12_bars_30 : decode cX12_bars 30 = .ok (.iconst (-1), 1) := by decide +kernel
theorem dX12_bars_31 : decode cX12_bars 31 = .ok (.ireturn, 1) := by decide +kernel
theorem dX12_bars_32 : decode cX12_bars 32 = .ok (.iconst (-1), 1) := by decide +kernel
theorem dX12_bars_33 : decode cX12_bars 33 = .ok (.istore 4, 2) := by decide +kernel
theorem dX12_bars_35 : decode cX12_bars 35 = .ok (.iconst 0, 1) := by decide +kernel
theorem dX12_bars_36 : decode cX12_bars 36 = .ok (.istore 5, 2) := by decide +kernel
theorem dX12_bars_38 : decode cX12_bars 38 = .ok (.iload 5, 2) := by decide +kernel
theorem dX12_bars_40 : decode cX12_bars 40 = .ok (.iconst 1, 1) := by decide +kernel
theorem dX12_bars_41 : decode cX12_bars 41 = .ok (.aload_n 0, 1) := by decide +kernel
theorem dX12_bars_42 : decode cX12_bars 42 = .ok (.getfield 398, 3) := by decide +kernel
theorem dX12_bars_45 : decode cX12_bars 45 = .ok (.ishl, 1) := by decide +kernel
theorem dX12_bars_46 : decode cX12_bars 46 = .ok (.if_icmp .ge 88, 3) := by decide +kernel
theorem dX12_bars_49 : decode cX12_bars 49 = .ok (.iload 5, 2) := by decide +kernel
theorem dX12_bars_51 : decode cX12_bars 51 = .ok (.invokestatic 535, 3) := by decide +kernel
theorem dX12_bars_54 : decode cX12_bars 54 = .ok (.iconst 3, 1) := by decide +kernel
theorem dX12_bars_55 : decode cX12_bars 55 = .ok (.if_icmp .gt 73, 3) := by decide +kernel
theorem dX12_bars_58 : decode cX12_bars 58 = .ok (.iload 4, 2) := by decide +kernel
theorem dX12_bars_60 : decode cX12_bars 60 = .ok (.ifCond .lt 16, 3) := by decide +kernel
theorem dX12_bars_63 : decode cX12_bars 63 = .ok (.iload 5, 2) := by decide +kernel
theorem dX12_bars_65 : decode cX12_bars 65 = .ok (.invokestatic 535, 3) := by decide +kernel
theorem dX12_bars_68 : decode cX12_bars 68 = .ok (.iload 4, 2) := by decide +kernel
theorem dX12_bars_70 : decode cX12_bars 70 = .ok (.invokestatic 535, 3) := by decide +kernel
theorem dX12_bars_73 : decode cX12_bars 73 = .ok (.if_icmp .ge 55, 3) := by decide +kernel
theorem dX12_bars_76 : decode cX12_bars 76 = .ok (.iload 5, 2) := by decide +kernel
theorem dX12_bars_78 : decode cX12_bars 78 = .ok (.aload_n 0, 1) := by decide +kernel
theorem dX12_bars_79 : decode cX12_bars 79 = .ok (.getfield 99, 3) := by decide +kernel
theorem dX12_bars_82 : decode cX12_bars 82 = .ok (.bipush 89, 2) := by decide +kernel
theorem dX12_bars_84 : decode cX12_bars 84 = .ok (.iaload, 1) := by decide +kernel
theorem dX12_bars_85 : decode cX12_bars 85 = .ok (.iand, 1) := by decide +kernel
theorem dX12_bars_86 : decode cX12_bars 86 = .ok (.ifCond .eq 6, 3) := by decide +kernel
theorem dX12_bars_89 : decode cX12_bars 89 = .ok (.goto 39, 3) := by decide +kernel
theorem dX12_bars_92 : decode cX12_bars 92 = .ok (.aload_n 0, 1) := by decide +kernel
theorem dX12_bars_93 : decode cX12_bars 93 = .ok (.invokevirtual 496, 3) := by decide +kernel
theorem dX12_bars_96 : decode cX12_bars 96 = .ok (.aload_n 0, 1) := by decide +kernel
theorem dX12_bars_97 : decode cX12_bars 97 = .ok (.getfield 102, 3) := by decide +kernel
theorem dX12_bars_100 : decode cX12_bars 100 = .ok (.bipush 89, 2) := by decide +kernel
theorem dX12_bars_102 : decode cX12_bars 102 = .ok (.dup2, 1) := by decide +kernel
theorem dX12_bars_103 : decode cX12_bars 103 = .ok (.iaload, 1) := by decide +kernel
theorem dX12_bars_104 : decode cX12_bars 104 = .ok (.iload 5, 2) := by decide +kernel
theorem dX12_bars_106 : decode cX12_bars 106 = .ok (.ior, 1) := by decide +kernel
theorem dX12_bars_107 : decode cX12_bars 107 = .ok (.iastore, 1) := by decide +kernel
theorem dX12_bars_108 : decode cX12_bars 108 = .ok (.aload_n 0, 1) := by decide +kernel
theorem dX12_bars_109 : decode cX12_bars 109 = .ok (.invokevirtual 436, 3) := by decide +kernel
theorem dX12_bars_112 : decode cX12_bars 112 = .ok (.aload_n 0, 1) := by decide +kernel
theorem dX12_bars_113 : decode cX12_bars 113 = .ok (.iload_n 1, 1) := by decide +kernel
theorem dX12_bars_114 : decode cX12_bars 114 = .ok (.iload_n 2, 1) := by decide +kernel
theorem dX12_bars_115 : decode cX12_bars 115 = .ok (.invokevirtual 439, 3) := by decide +kernel
theorem dX12_bars_118 : decode cX12_bars 118 = .ok (.sipush 1000, 3) := by decide +kernel
theorem dX12_bars_121 : decode cX12_bars 121 = .ok (.if_icmp .lt 7, 3) := by decide +kernel
theorem dX12_bars_124 : decode cX12_bars 124 = .ok (.iload 5, 2) := by decide +kernel
theorem dX12_bars_126 : decode cX12_bars 126 = .ok (.istore 4, 2) := by decide +kernel
theorem dX12_bars_128 : decode cX12_bars 128 = .ok (.iinc 5 1, 3) := by decide +kernel
theorem dX12_bars_131 : decode cX12_bars 131 = .ok (.goto (-93), 3) := by decide +kernel
theorem dX12_bars_134 : decode cX12_bars 134 = .ok (.iload 4, 2) := by decide +kernel
theorem dX12_bars_136 : decode cX12_bars 136 = .ok (.ifCond .ge 7, 3) := by decide +kernel
theorem dX12_bars_139 : decode cX12_bars 139 = .ok (.iconst (-1), 1) := by decide +kernel
theorem dX12_bars_140 : decode cX12_bars 140 = .ok (.goto 17, 3) := by decide +kernel
theorem dX12_bars_143 : decode cX12_bars 143 = .ok (.iload_n 3, 1) := by decide +kernel
theorem dX12_bars_144 : decode cX12_bars 144 = .ok (.ifCond .ne 11, 3) := by decide +kernel
theorem dX12_bars_147 : decode cX12_bars 147 = .ok (.iload 4, 2) := by decide +kernel
theorem dX12_bars_149 : decode cX12_bars 149 = .ok (.invokestatic 535, 3) := by decide +kernel
theorem dX12_bars_152 : decode cX12_bars 152 = .ok (.goto 5, 3) := by decide +kernel
theorem dX12_bars_155 : decode cX12_bars 155 = .ok (.iload 4, 2) := by decide +kernel
theorem dX12_bars_157 : decode cX12_bars 157 = .ok (.ireturn, 1) := by decide +kernel
theorem dX12_layTrace_0 : decode cX12_layTrace 0 = .ok (.aload_n 0, 1) := by decide +kernel
theorem dX12_layTrace_1 : decode cX12_layTrace 1 = .ok (.invokevirtual 496, 3) := by decide +kernel
theorem dX12_layTrace_4 : decode cX12_layTrace 4 = .ok (.aload_n 0, 1) := by decide +kernel
theorem dX12_layTrace_5 : decode cX12_layTrace 5 = .ok (.getfield 102, 3) := by decide +kernel
theorem dX12_layTrace_8 : decode cX12_layTrace 8 = .ok (.bipush 88, 2) := by decide +kernel
theorem dX12_layTrace_10 : decode cX12_layTrace 10 = .ok (.iconst 1, 1) := by decide +kernel
theorem dX12_layTrace_11 : decode cX12_layTrace 11 = .ok (.iastore, 1) := by decide +kernel
theorem dX12_layTrace_12 : decode cX12_layTrace 12 = .ok (.aload_n 0, 1) := by decide +kernel
theorem dX12_layTrace_13 : decode cX12_layTrace 13 = .ok (.getfield 102, 3) := by decide +kernel
theorem dX12_layTrace_16 : decode cX12_layTrace 16 = .ok (.bipush 18, 2) := by decide +kernel
theorem dX12_layTrace_18 : decode cX12_layTrace 18 = .ok (.iload_n 1, 1) := by decide +kernel
theorem dX12_layTrace_19 : decode cX12_layTrace 19 = .ok (.iastore, 1) := by decide +kernel
theorem dX12_layTrace_20 : decode cX12_layTrace 20 = .ok (.aload_n 0, 1) := by decide +kernel
theorem dX12_layTrace_21 : decode cX12_layTrace 21 = .ok (.getfield 102, 3) := by decide +kernel
theorem dX12_layTrace_24 : decode cX12_layTrace 24 = .ok (.bipush 28, 2) := by decide +kernel
theorem dX12_layTrace_26 : decode cX12_layTrace 26 = .ok (.iconst (-1), 1) := by decide +kernel
theorem dX12_layTrace_27 : decode cX12_layTrace 27 = .ok (.iastore, 1) := by decide +kernel
theorem dX12_layTrace_28 : decode cX12_layTrace 28 = .ok (.aload_n 0, 1) := by decide +kernel
theorem dX12_layTrace_29 : decode cX12_layTrace 29 = .ok (.getfield 102, 3) := by decide +kernel
theorem dX12_layTrace_32 : decode cX12_layTrace 32 = .ok (.bipush 38, 2) := by decide +kernel
theorem dX12_layTrace_34 : decode cX12_layTrace 34 = .ok (.iconst (-1), 1) := by decide +kernel
theorem dX12_layTrace_35 : decode cX12_layTrace 35 = .ok (.iastore, 1) := by decide +kernel
theorem dX12_layTrace_36 : decode cX12_layTrace 36 = .ok (.aload_n 0, 1) := by decide +kernel
theorem dX12_layTrace_37 : decode cX12_layTrace 37 = .ok (.getfield 102, 3) := by decide +kernel
theorem dX12_layTrace_40 : decode cX12_layTrace 40 = .ok (.bipush 48, 2) := by decide +kernel
theorem dX12_layTrace_42 : decode cX12_layTrace 42 = .ok (.iconst 0, 1) := by decide +kernel
theorem dX12_layTrace_43 : decode cX12_layTrace 43 = .ok (.iastore, 1) := by decide +kernel
theorem dX12_layTrace_44 : decode cX12_layTrace 44 = .ok (.aload_n 0, 1) := by decide +kernel
theorem dX12_layTrace_45 : decode cX12_layTrace 45 = .ok (.getfield 102, 3) := by decide +kernel
theorem dX12_layTrace_48 : decode cX12_layTrace 48 = .ok (.bipush 58, 2) := by decide +kernel
theorem dX12_layTrace_50 : decode cX12_layTrace 50 = .ok (.iload_n 2, 1) := by decide +kernel
theorem dX12_layTrace_51 : decode cX12_layTrace 51 = .ok (.iastore, 1) := by decide +kernel
theorem dX12_layTrace_52 : decode cX12_layTrace 52 = .ok (.aload_n 0, 1) := by decide +kernel
theorem dX12_layTrace_53 : decode cX12_layTrace 53 = .ok (.getfield 102, 3) := by decide +kernel
theorem dX12_layTrace_56 : decode cX12_layTrace 56 = .ok (.bipush 90, 2) := by decide +kernel
theorem dX12_layTrace_58 : decode cX12_layTrace 58 = .ok (.iaload, 1) := by decide +kernel
theorem dX12_layTrace_59 : decode cX12_layTrace 59 = .ok (.sipush 300, 3) := by decide +kernel
theorem dX12_layTrace_62 : decode cX12_layTrace 62 = .ok (.if_icmp .ge 21, 3) := by decide +kernel
theorem dX12_layTrace_65 : decode cX12_layTrace 65 = .ok (.aload_n 0, 1) := by decide +kernel
theorem dX12_layTrace_66 : decode cX12_layTrace 66 = .ok (.getfield 102, 3) := by decide +kernel
theorem dX12_layTrace_69 : decode cX12_layTrace 69 = .ok (.bipush 38, 2) := by decide +kernel
theorem dX12_layTrace_71 : decode cX12_layTrace 71 = .ok (.iaload, 1) := by decide +kernel
theorem dX12_layTrace_72 : decode cX12_layTrace 72 = .ok (.ifCond .ge 11, 3) := by decide +kernel
theorem dX12_layTrace_75 : decode cX12_layTrace 75 = .ok (.aload_n 0, 1) := by decide +kernel
theorem dX12_layTrace_76 : decode cX12_layTrace 76 = .ok (.invokevirtual 517, 3) := by decide +kernel
theorem dX12_layTrace_79 : decode cX12_layTrace 79 = .ok (.pop, 1) := by decide +kernel
