theorem dX11_ask_44 : decode cX11_ask 44 = .ok (.getfield 19, 3) := by decide +kernel
theorem dX11_ask_47 : decode cX11_ask 47 = .ok (.getfield 107, 3) := by decide +kernel
theorem dX11_ask_50 : decode cX11_ask 50 = .ok (.if_icmp .ge 52, 3) := by decide +kernel
theorem dX11_ask_53 : decode cX11_ask 53 = .ok (.aload_n 0, 1) := by decide +kernel
theorem dX11_ask_54 : decode cX11_ask 54 = .ok (.getfield 40, 3) := by decide +kernel
theorem dX11_ask_57 : decode cX11_ask 57 = .ok (.iload 7, 2) := by decide +kernel
theorem dX11_ask_59 : decode cX11_ask 59 = .ok (.iload 4, 2) := by decide +kernel
theorem dX11_ask_61 : decode cX11_ask 61 = .ok (.invokevirtual 332, 3) := by decide +kernel
theorem dX11_ask_64 : decode cX11_ask 64 = .ok (.istore 8, 2) := by decide +kernel
theorem dX11_ask_66 : decode cX11_ask 66 = .ok (.iload 8, 2) := by decide +kernel
theorem dX11_ask_68 : decode cX11_ask 68 = .ok (.iload 4, 2) := by decide +kernel
theorem dX11_ask_70 : decode cX11_ask 70 = .ok (.invokestatic 270, 3) := by decide +kernel
theorem dX11_ask_73 : decode cX11_ask 73 = .ok (.iload 8, 2) := by decide +kernel
theorem dX11_ask_75 : decode cX11_ask 75 = .ok (.isub, 1) := by decide +kernel
theorem dX11_ask_76 : decode cX11_ask 76 = .ok (.invokestatic 288, 3) := by decide +kernel
theorem dX11_ask_79 : decode cX11_ask 79 = .ok (.istore 9, 2) := by decide +kernel
theorem dX11_ask_81 : decode cX11_ask 81 = .ok (.iload 9, 2) := by decide +kernel
theorem dX11_ask_83 : decode cX11_ask 83 = .ok (.iload 6, 2) := by decide +kernel
theorem dX11_ask_85 : decode cX11_ask 85 = .ok (.if_icmp .ge 11, 3) := by decide +kernel
theorem dX11_ask_88 : decode cX11_ask 88 = .ok (.iload 7, 2) := by decide +kernel
theorem dX11_ask_90 : decode cX11_ask 90 = .ok (.istore 5, 2) := by decide +kernel
theorem dX11_ask_92 : decode cX11_ask 92 = .ok (.iload 9, 2) := by decide +kernel
theorem dX11_ask_94 : decode cX11_ask 94 = .ok (.istore 6, 2) := by decide +kernel
theorem dX11_ask_96 : decode cX11_ask 96 = .ok (.iinc 7 1, 3) := by decide +kernel
theorem dX11_ask_99 : decode cX11_ask 99 = .ok (.goto (-58), 3) := by decide +kernel
theorem dX11_ask_102 : decode cX11_ask 102 = .ok (.iload 5, 2) := by decide +kernel
theorem dX11_ask_104 : decode cX11_ask 104 = .ok (.iconst (-1), 1) := by decide +kernel
theorem dX11_ask_105 : decode cX11_ask 105 = .ok (.if_icmp .eq 7, 3) := by decide +kernel
theorem dX11_ask_108 : decode cX11_ask 108 = .ok (.iload_n 2, 1) := by decide +kernel
theorem dX11_ask_109 : decode cX11_ask 109 = .ok (.ifCond .ne 6, 3) := by decide +kernel
theorem dX11_ask_112 : decode cX11_ask 112 = .ok (.iload 5, 2) := by decide +kernel
theorem dX11_ask_114 : decode cX11_ask 114 = .ok (.ireturn, 1) := by decide +kernel
theorem dX11_ask_115 : decode cX11_ask 115 = .ok (.iload_n 2, 1) := by decide +kernel
theorem dX11_ask_116 : decode cX11_ask 116 = .ok (.iconst 1, 1) := by decide +kernel
theorem dX11_ask_117 : decode cX11_ask 117 = .ok (.if_icmp .ne 8, 3) := by decide +kernel
theorem dX11_ask_120 : decode cX11_ask 120 = .ok (.iload 6, 2) := by decide +kernel
theorem dX11_ask_122 : decode cX11_ask 122 = .ok (.goto 4, 3) := by decide +kernel
theorem dX11_ask_125 : decode cX11_ask 125 = .ok (.iconst (-1), 1) := by decide +kernel
theorem dX11_ask_126 : decode cX11_ask 126 = .ok (.ireturn, 1) := by decide +kernel
theorem dX11_image_0 : decode cX11_image 0 = .ok (.iload_n 1, 1) := by decide +kernel
theorem dX11_image_1 : decode cX11_image 1 = .ok (.iconst 3, 1) := by decide +kernel
theorem dX11_image_2 : decode cX11_image 2 = .ok (.invokestatic 110, 3) := by decide +kernel
theorem dX11_image_5 : decode cX11_image 5 = .ok (.ifCond .ne 5, 3) := by decide +kernel
theorem dX11_image_8 : decode cX11_image 8 = .ok (.iconst (-1), 1) := by decide +kernel
theorem dX11_image_9 : decode cX11_image 9 = .ok (.ireturn, 1) := by decide +kernel
theorem dX11_image_10 : decode cX11_image 10 = .ok (.aload_n 0, 1) := by decide +kernel
theorem dX11_image_11 : decode cX11_image 11 = .ok (.getfield 65, 3) := by decide +kernel
theorem dX11_image_14 : decode cX11_image 14 = .ok (.iload_n 1, 1) := by decide +kernel
theorem dX11_image_15 : decode cX11_image 15 = .ok (.aaload, 1) := by decide +kernel
theorem dX11_image_16 : decode cX11_image 16 = .ok (.aload_n 0, 1) := by decide +kernel
theorem dX11_image_17 : decode cX11_image 17 = .ok (.getfield 47, 3) := by decide +kernel
theorem dX11_image_20 : decode cX11_image 20 = .ok (.invokevirtual 335, 3) := by decide +kernel
theorem dX11_image_23 : decode cX11_image 23 = .ok (.aload_n 0, 1) := by decide +kernel
theorem dX11_image_24 : decode cX11_image 24 = .ok (.getfield 69, 3) := by decide +kernel
theorem dX11_image_27 : decode cX11_image 27 = .ok (.iload_n 1, 1) := by decide +kernel
theorem dX11_image_28 : decode cX11_image 28 = .ok (.iconst 1, 1) := by decide +kernel
theorem dX11_image_29 : decode cX11_image 29 = .ok (.bastore, 1) := by decide +kernel
theorem dX11_image_30 : decode cX11_image 30 = .ok (.aload_n 0, 1) := by decide +kernel
theorem dX11_image_31 : decode cX11_image 31 = .ok (.getfield 47, 3) := by decide +kernel
theorem dX11_image_34 : decode cX11_image 34 = .ok (.getfield 178, 3) := by decide +kernel
theorem dX11_image_37 : decode cX11_image 37 = .ok (.ireturn, 1) := by decide +kernel
theorem dX11_back_0 : decode cX11_back 0 = .ok (.iload_n 1, 1) := by decide +kernel
theorem dX11_back_1 : decode cX11_back 1 = .ok (.iconst 3, 1) := by decide +kernel
theorem dX11_back_2 : decode cX11_back 2 = .ok (.invokestatic 110, 3) := by decide +kernel
theorem dX11_back_5 : decode cX11_back 5 = .ok (.ifCond .eq 12, 3) := by decide +kernel
theorem dX11_back_8 : decode cX11_back 8 = .ok (.aload_n 0, 1) := by decide +kernel
theorem dX11_back_9 : decode cX11_back 9 = .ok (.getfield 69, 3) := by decide +kernel
theorem dX11_back_12 : decode cX11_back 12 = .ok (.iload_n 1, 1) := by decide +kernel
theorem dX11_back_13 : decode cX11_back 13 = .ok (.baload, 1) := by decide +kernel
theorem dX11_back_14 : decode cX11_back 14 = .ok (.ifCond .ne 5, 3) := by decide +kernel
theorem dX11_back_17 : decode cX11_back 17 = .ok (.iconst (-1), 1) := by decide +kernel
theorem dX11_back_18 : decode cX11_back 18 = .ok (.ireturn, 1) := by decide +kernel
theorem dX11_back_19 : decode cX11_back 19 = .ok (.aload_n 0, 1) := by decide +kernel
theorem dX11_back_20 : decode cX11_back 20 = .ok (.aload_n 0, 1) := by decide +kernel
theorem dX11_back_21 : decode cX11_back 21 = .ok (.getfield 65, 3) := by decide +kernel
theorem dX11_back_24 : decode cX11_back 24 = .ok (.iload_n 1, 1) := by decide +kernel
theorem dX11_back_25 : decode cX11_back 25 = .ok (.aaload, 1) := by decide +kernel
theorem dX11_back_26 : decode cX11_back 26 = .ok (.invokevirtual 227, 3) := by decide +kernel
theorem dX11_back_29 : decode cX11_back 29 = .ok (.aload_n 0, 1) := by decide +kernel
theorem dX11_back_30 : decode cX11_back 30 = .ok (.getfield 54, 3) := by decide +kernel
theorem dX11_back_33 : decode cX11_back 33 = .ok (.aload_n 0, 1) := by decide +kernel
theorem dX11_back_34 : decode cX11_back 34 = .ok (.getfield 47, 3) := by decide +kernel
theorem dX11_back_37 : decode cX11_back 37 = .ok (.invokevirtual 338, 3) := by decide +kernel
theorem dX11_back_40 : decode cX11_back 40 = .ok (.aload_n 0, 1) := by decide +kernel
theorem dX11_back_41 : decode cX11_back 41 = .ok (.getfield 47, 3) := by decide +kernel
theorem dX11_back_44 : decode cX11_back 44 = .ok (.getfield 178, 3) := by decide +kernel
theorem dX11_back_47 : decode cX11_back 47 = .ok (.ireturn, 1) := by decide +kernel
theorem dX11_about_0 : decode cX11_about 0 = .ok (.iload_n 1, 1) := by decide +kernel
theorem dX11_about_1 : decode cX11_about 1 = .ok (.tableswitch 186 0 13 #[71, 79, 87, 95, 103, 111, 119, 127, 135, 143, 151, 159, 170, 181], 71) := by decide +kernel
theorem dX11_about_72 : decode cX11_about 72 = .ok (.aload_n 0, 1) := by decide +kernel
theorem dX11_about_73 : decode cX11_about 73 = .ok (.getfield 47, 3) := by decide +kernel
theorem dX11_about_76 : decode cX11_about 76 = .ok (.getfield 133, 3) := by decide +kernel
theorem dX11_about_79 : decode cX11_about 79 = .ok (.ireturn, 1) := by decide +kernel
theorem dX11_about_80 : decode cX11_about 80 = .ok (.aload_n 0, 1) := by decide +kernel
theorem dX11_about_81 : decode cX11_about 81 = .ok (.getfield 19, 3) := by decide +kernel
theorem dX11_about_84 : decode cX11_about 84 = .ok (.getfield 155, 3) := by decide +kernel
theorem dX11_about_87 : decode cX11_about 87 = .ok (.ireturn, 1) := by decide +kernel
theorem dX11_about_88 : decode cX11_about 88 = .ok (.aload_n 0, 1) := by decide +kernel
theorem dX11_about_89 : decode cX11_about 89 = .ok (.getfield 19, 3) := by decide +kernel
theorem dX11_about_92 : decode cX11_about 92 = .ok (.getfield 209, 3) := by decide +kernel
theorem dX11_about_95 : decode cX11_about 95 = .ok (.ireturn, 1) := by decide +kernel
theorem dX11_about_96 : decode cX11_about 96 = .ok (.aload_n 0, 1) := by decide +kernel
theorem dX11_about_97 : decode cX11_about 97 = .ok (.getfield 19, 3) := by decide +kernel
theorem dX11_about_100 : decode cX11_about 100 = .ok (.getfield 107, 3) := by decide +kernel
theorem dX11_about_103 : decode cX11_about 103 = .ok (.ireturn, 1) := by decide +kernel
theorem dX11_about_104 : decode cX11_about 104 = .ok (.aload_n 0, 1) := by decide +kernel
theorem dX11_about_105 : decode cX11_about 105 = .ok (.getfield 47, 3) := by decide +kernel
theorem dX11_about_108 : decode cX11_about 108 = .ok (.getfield 178, 3) := by decide +kernel
theorem dX11_about_111 : decode cX11_about 111 = .ok (.ireturn, 1) := by decide +kernel
theorem dX11_about_112 : decode cX11_about 112 = .ok (.aload_n 0, 1) := by decide +kernel
theorem dX11_about_113 : decode cX11_about 113 = .ok (.getfield 47, 3) := by decide +kernel
theorem dX11_about_116 : decode cX11_about 116 = .ok (.getfield 212, 3) := by decide +kernel
theorem dX11_about_119 : decode cX11_about 119 = .ok (.ireturn, 1) := by decide +kernel
theorem dX11_about_120 : decode cX11_about 120 = .ok (.aload_n 0, 1) := by decide +kernel
theorem dX11_about_121 : decode cX11_about 121 = .ok (.getfield 47, 3) := by decide +kernel
theorem dX11_about_124 : decode cX11_about 124 = .ok (.invokevirtual 341, 3) := by decide +kernel
theorem dX11_about_127 : decode cX11_about 127 = .ok (.ireturn, 1) := by decide +kernel
theorem dX11_about_128 : decode cX11_about 128 = .ok (.aload_n 0, 1) := by decide +kernel
theorem dX11_about_129 : decode cX11_about 129 = .ok (.getfield 54, 3) := by decide +kernel
theorem dX11_about_132 : decode cX11_about 132 = .ok (.invokevirtual 219, 3) := by decide +kernel
theorem dX11_about_135 : decode cX11_about 135 = .ok (.ireturn, 1) := by decide +kernel
theorem dX11_about_136 : decode cX11_about 136 = .ok (.aload_n 0, 1) := by decide +kernel
theorem dX11_about_137 : decode cX11_about 137 = .ok (.getfield 54, 3) := by decide +kernel
theorem dX11_about_140 : decode cX11_about 140 = .ok (.invokevirtual 230, 3) := by decide +kernel
theorem dX11_about_143 : decode cX11_about 143 = .ok (.ireturn, 1) := by decide +kernel
theorem dX11_about_144 : decode cX11_about 144 = .ok (.aload_n 0, 1) := by decide +kernel
theorem dX11_about_145 : decode cX11_about 145 = .ok (.getfield 61, 3) := by decide +kernel
theorem dX11_about_148 : decode cX11_about 148 = .ok (.getfield 315, 3) := by decide +kernel
theorem dX11_about_151 : decode cX11_about 151 = .ok (.ireturn, 1) := by decide +kernel
theorem dX11_about_152 : decode cX11_about 152 = .ok (.aload_n 0, 1) := by decide +kernel
theorem dX11_about_153 : decode cX11_about 153 = .ok (.getfield 61, 3) := by decide +kernel
theorem dX11_about_156 : decode cX11_about 156 = .ok (.getfield 325, 3) := by decide +kernel
theorem dX11_about_159 : decode cX11_about 159 = .ok (.ireturn, 1) := by decide +kernel
theorem dX11_about_160 : decode cX11_about 160 = .ok (.aload_n 0, 1) := by decide +kernel
theorem dX11_about_161 : decode cX11_about 161 = .ok (.getfield 10, 3) := by decide +kernel
theorem dX11_about_164 : decode cX11_about 164 = .ok (.getfield 80, 3) := by decide +kernel
theorem dX11_about_167 : decode cX11_about 167 = .ok (.getfield 84, 3) := by decide +kernel
theorem dX11_about_170 : decode cX11_about 170 = .ok (.ireturn, 1) := by decide +kernel
theorem dX11_about_171 : decode cX11_about 171 = .ok (.aload_n 0, 1) := by decide +kernel
theorem dX11_about_172 : decode cX11_about 172 = .ok (.getfield 19, 3) := by decide +kernel
theorem dX11_about_175 : decode cX11_about 175 = .ok (.getfield 344, 3) := by decide +kernel
theorem dX11_about_178 : decode cX11_about 178 = .ok (.getfield 348, 3) := by decide +kernel
theorem dX11_about_181 : decode cX11_about 181 = .ok (.ireturn, 1) := by decide +kernel
theorem dX11_about_182 : decode cX11_about 182 = .ok (.aload_n 0, 1) := by decide +kernel
theorem dX11_about_183 : decode cX11_about 183 = .ok (.getfield 296, 3) := by decide +kernel
theorem dX11_about_186 : decode cX11_about 186 = .ok (.ireturn, 1) := by decide +kernel
theorem dX11_about_187 : decode cX11_about 187 = .ok (.iconst (-1), 1) := by decide +kernel
theorem dX11_about_188 : decode cX11_about 188 = .ok (.ireturn, 1) := by decide +kernel
theorem dX11_isOneOf_0 : decode cX11_isOneOf 0 = .ok (.iload_n 0, 1) := by decide +kernel
theorem dX11_isOneOf_1 : decode cX11_isOneOf 1 = .ok (.ifCond .lt 12, 3) := by decide +kernel
theorem dX11_isOneOf_4 : decode cX11_isOneOf 4 = .ok (.iload_n 0, 1) := by decide +kernel
theorem dX11_isOneOf_5 : decode cX11_isOneOf 5 = .ok (.iload_n 1, 1) := by decide +kernel
theorem dX11_isOneOf_6 : decode cX11_isOneOf 6 = .ok (.if_icmp .ge 7, 3) := by decide +kernel
theorem dX11_isOneOf_9 : decode cX11_isOneOf 9 = .ok (.iconst 1, 1) := by decide +kernel
theorem dX11_isOneOf_10 : decode cX11_isOneOf 10 = .ok (.goto 4, 3) := by decide +kernel
theorem dX11_isOneOf_13 : decode cX11_isOneOf 13 = .ok (.iconst 0, 1) := by decide +kernel
theorem dX11_isOneOf_14 : decode cX11_isOneOf 14 = .ok (.ireturn, 1) := by decide +kernel
theorem dX11_cell_0 : decode cX11_cell 0 = .ok (.iload_n 1, 1) := by decide +kernel
theorem dX11_cell_1 : decode cX11_cell 1 = .ok (.ifCond .lt 15, 3) := by decide +kernel
theorem dX11_cell_4 : decode cX11_cell 4 = .ok (.iload_n 1, 1) := by decide +kernel
theorem dX11_cell_5 : decode cX11_cell 5 = .ok (.aload_n 0, 1) := by decide +kernel
theorem dX11_cell_6 : decode cX11_cell 6 = .ok (.arraylength, 1) := by decide +kernel
theorem dX11_cell_7 : decode cX11_cell 7 = .ok (.if_icmp .ge 9, 3) := by decide +kernel
theorem dX11_cell_10 : decode cX11_cell 10 = .ok (.aload_n 0, 1) := by decide +kernel
theorem dX11_cell_11 : decode cX11_cell 11 = .ok (.iload_n 1, 1) := by decide +kernel
theorem dX11_cell_12 : decode cX11_cell 12 = .ok (.iaload, 1) := by decide +kernel
theorem dX11_cell_13 : decode cX11_cell 13 = .ok (.goto 4, 3) := by decide +kernel
theorem dX11_cell_16 : decode cX11_cell 16 = .ok (.iconst (-1), 1) := by decide +kernel
theorem dX11_cell_17 : decode cX11_cell 17 = .ok (.ireturn, 1) := by decide +kernel
theorem dX11_countOrSet_0 : decode cX11_countOrSet 0 = .ok (.iload_n 0, 1) := by decide +kernel
theorem dX11_countOrSet_1 : decode cX11_countOrSet 1 = .ok (.iconst (-1), 1) := by decide +kernel
theorem dX11_countOrSet_2 : decode cX11_countOrSet 2 = .ok (.if_icmp .eq 8, 3) := by decide +kernel
theorem dX11_countOrSet_5 : decode cX11_countOrSet 5 = .ok (.iload_n 1, 1) := by decide +kernel
theorem dX11_countOrSet_6 : decode cX11_countOrSet 6 = .ok (.iconst 1, 1) := by decide +kernel
theorem dX11_countOrSet_7 : decode cX11_countOrSet 7 = .ok (.if_icmp .ne 5, 3) := by decide +kernel
theorem dX11_countOrSet_10 : decode cX11_countOrSet 10 = .ok (.iload_n 0, 1) := by decide +kernel
theorem dX11_countOrSet_11 : decode cX11_countOrSet 11 = .ok (.ireturn, 1) := by decide +kernel
theorem dX11_countOrSet_12 : decode cX11_countOrSet 12 = .ok (.iload_n 1, 1) := by decide +kernel
theorem dX11_countOrSet_13 : decode cX11_countOrSet 13 = .ok (.ifCond .ne 10, 3) := by decide +kernel
theorem dX11_countOrSet_16 : decode cX11_countOrSet 16 = .ok (.iload_n 0, 1) := by decide +kernel
theorem dX11_countOrSet_17 : decode cX11_countOrSet 17 = .ok (.invokestatic 270, 3) := by decide +kernel
theorem dX11_countOrSet_20 : decode cX11_countOrSet 20 = .ok (.goto 4, 3) := by decide +kernel
theorem dX11_countOrSet_23 : decode cX11_countOrSet 23 = .ok (.iconst (-1), 1) := by decide +kernel
theorem dX11_countOrSet_24 : decode cX11_countOrSet 24 = .ok (.ireturn, 1) := by decide +kernel
theorem dX11_areTwoVillages_0 : decode cX11_areTwoVillages 0 = .ok (.iload_n 1, 1) := by decide +kernel
theorem dX11_areTwoVillages_1 : decode cX11_areTwoVillages 1 = .ok (.aload_n 0, 1) := by decide +kernel
theorem dX11_areTwoVillages_2 : decode cX11_areTwoVillages 2 = .ok (.getfield 19, 3) := by decide +kernel
theorem dX11_areTwoVillages_5 : decode cX11_areTwoVillages 5 = .ok (.getfield 155, 3) := by decide +kernel
theorem dX11_areTwoVillages_8 : decode cX11_areTwoVillages 8 = .ok (.invokestatic 110, 3) := by decide +kernel
theorem dX11_areTwoVillages_11 : decode cX11_areTwoVillages 11 = .ok (.ifCond .eq 26, 3) := by decide +kernel
theorem dX11_areTwoVillages_14 : decode cX11_areTwoVillages 14 = .ok (.iload_n 2, 1) := by decide +kernel
theorem dX11_areTwoVillages_15 : decode cX11_areTwoVillages 15 = .ok (.aload_n 0, 1) := by decide +kernel
theorem dX11_areTwoVillages_16 : decode cX11_areTwoVillages 16 = .ok (.getfield 19, 3) := by decide +kernel
theorem dX11_areTwoVillages_19 : decode cX11_areTwoVillages 19 = .ok (.getfield 155, 3) := by decide +kernel
theorem dX11_areTwoVillages_22 : decode cX11_areTwoVillages 22 = .ok (.invokestatic 110, 3) := by decide +kernel
theorem dX11_areTwoVillages_25 : decode cX11_areTwoVillages 25 = .ok (.ifCond .eq 12, 3) := by decide +kernel
theorem dX11_areTwoVillages_28 : decode cX11_areTwoVillages 28 = .ok (.iload_n 1, 1) := by decide +kernel
theorem dX11_areTwoVillages_29 : decode cX11_areTwoVillages 29 = .ok (.iload_n 2, 1) := by decide +kernel
theorem dX11_areTwoVillages_30 : decode cX11_areTwoVillages 30 = .ok (.if_icmp .eq 7, 3) := by decide +kernel
theorem dX11_areTwoVillages_33 : decode cX11_areTwoVillages 33 = .ok (.iconst 1, 1) := by decide +kernel
theorem dX11_areTwoVillages_34 : decode cX11_areTwoVillages 34 = .ok (.goto 4, 3) := by decide +kernel
theorem dX11_areTwoVillages_37 : decode cX11_areTwoVillages 37 = .ok (.iconst 0, 1) := by decide +kernel
theorem dX11_areTwoVillages_38 : decode cX11_areTwoVillages 38 = .ok (.ireturn, 1) := by decide +kernel
theorem dX11_areTwoBiers_0 : decode cX11_areTwoBiers 0 = .ok (.iload_n 1, 1) := by decide +kernel
theorem dX11_areTwoBiers_1 : decode cX11_areTwoBiers 1 = .ok (.aload_n 0, 1) := by decide +kernel
theorem dX11_areTwoBiers_2 : decode cX11_areTwoBiers 2 = .ok (.getfield 19, 3) := by decide +kernel
theorem dX11_areTwoBiers_5 : decode cX11_areTwoBiers 5 = .ok (.getfield 107, 3) := by decide +kernel
theorem dX11_areTwoBiers_8 : decode cX11_areTwoBiers 8 = .ok (.invokestatic 110, 3) := by decide +kernel
theorem dX11_areTwoBiers_11 : decode cX11_areTwoBiers 11 = .ok (.ifCond .eq 26, 3) := by decide +kernel
theorem dX11_areTwoBiers_14 : decode cX11_areTwoBiers 14 = .ok (.iload_n 2, 1) := by decide +kernel
theorem dX11_areTwoBiers_15 : decode cX11_areTwoBiers 15 = .ok (.aload_n 0, 1) := by decide +kernel
theorem dX11_areTwoBiers_16 : decode cX11_areTwoBiers 16 = .ok (.getfield 19, 3) := by decide +kernel
theorem dX11_areTwoBiers_19 : decode cX11_areTwoBiers 19 = .ok (.getfield 107, 3) := by decide +kernel
theorem dX11_areTwoBiers_22 : decode cX11_areTwoBiers 22 = .ok (.invokestatic 110, 3) := by decide +kernel
theorem dX11_areTwoBiers_25 : decode cX11_areTwoBiers 25 = .ok (.ifCond .eq 12, 3) := by decide +kernel
theorem dX11_areTwoBiers_28 : decode cX11_areTwoBiers 28 = .ok (.iload_n 1, 1) := by decide +kernel
theorem dX11_areTwoBiers_29 : decode cX11_areTwoBiers 29 = .ok (.iload_n 2, 1) := by decide +kernel
theorem dX11_areTwoBiers_30 : decode cX11_areTwoBiers 30 = .ok (.if_icmp .eq 7, 3) := by decide +kernel
theorem dX11_areTwoBiers_33 : decode cX11_areTwoBiers 33 = .ok (.iconst 1, 1) := by decide +kernel
theorem dX11_areTwoBiers_34 : decode cX11_areTwoBiers 34 = .ok (.goto 4, 3) := by decide +kernel
theorem dX11_areTwoBiers_37 : decode cX11_areTwoBiers 37 = .ok (.iconst 0, 1) := by decide +kernel
theorem dX11_areTwoBiers_38 : decode cX11_areTwoBiers 38 = .ok (.ireturn, 1) := by decide +kernel
theorem dX11_startAnew_0 : decode cX11_startAnew 0 = .ok (.aload_n 0, 1) := by decide +kernel
theorem dX11_startAnew_1 : decode cX11_startAnew 1 = .ok (.getfield 31, 3) := by decide +kernel
theorem dX11_startAnew_4 : decode cX11_startAnew 4 = .ok (.aload_n 0, 1) := by decide +kernel
theorem dX11_startAnew_5 : decode cX11_startAnew 5 = .ok (.getfield 19, 3) := by decide +kernel
theorem dX11_startAnew_8 : decode cX11_startAnew 8 = .ok (.putfield 353, 3) := by decide +kernel
theorem dX11_startAnew_11 : decode cX11_startAnew 11 = .ok (.aload_n 0, 1) := by decide +kernel
theorem dX11_startAnew_12 : decode cX11_startAnew 12 = .ok (.getfield 47, 3) := by decide +kernel
theorem dX11_startAnew_15 : decode cX11_startAnew 15 = .ok (.aload_n 0, 1) := by decide +kernel
theorem dX11_startAnew_16 : decode cX11_startAnew 16 = .ok (.getfield 19, 3) := by decide +kernel
theorem dX11_startAnew_19 : decode cX11_startAnew 19 = .ok (.invokevirtual 356, 3) := by decide +kernel
theorem dX11_startAnew_22 : decode cX11_startAnew 22 = .ok (.aload_n 0, 1) := by decide +kernel
theorem dX11_startAnew_23 : decode cX11_startAnew 23 = .ok (.getfield 31, 3) := by decide +kernel
theorem dX11_startAnew_26 : decode cX11_startAnew 26 = .ok (.getfield 165, 3) := by decide +kernel
theorem dX11_startAnew_29 : decode cX11_startAnew 29 = .ok (.aload_n 0, 1) := by decide +kernel
theorem dX11_startAnew_30 : decode cX11_startAnew 30 = .ok (.getfield 19, 3) := by decide +kernel
theorem dX11_startAnew_33 : decode cX11_startAnew 33 = .ok (.aload_n 0, 1) := by decide +kernel
theorem dX11_startAnew_34 : decode cX11_startAnew 34 = .ok (.getfield 47, 3) := by decide +kernel
theorem dX11_startAnew_37 : decode cX11_startAnew 37 = .ok (.getfield 212, 3) := by decide +kernel
theorem dX11_startAnew_40 : decode cX11_startAnew 40 = .ok (.invokevirtual 215, 3) := by decide +kernel
theorem dX11_startAnew_43 : decode cX11_startAnew 43 = .ok (.aload_n 0, 1) := by decide +kernel
theorem dX11_startAnew_44 : decode cX11_startAnew 44 = .ok (.getfield 54, 3) := by decide +kernel
theorem dX11_startAnew_47 : decode cX11_startAnew 47 = .ok (.aload_n 0, 1) := by decide +kernel
theorem dX11_startAnew_48 : decode cX11_startAnew 48 = .ok (.getfield 47, 3) := by decide +kernel
theorem dX11_startAnew_51 : decode cX11_startAnew 51 = .ok (.invokevirtual 338, 3) := by decide +kernel
theorem dX11_startAnew_54 : decode cX11_startAnew 54 = .ok (.aload_n 0, 1) := by decide +kernel
theorem dX11_startAnew_55 : decode cX11_startAnew 55 = .ok (.getfield 61, 3) := by decide +kernel
theorem dX11_startAnew_58 : decode cX11_startAnew 58 = .ok (.iconst 0, 1) := by decide +kernel
theorem dX11_startAnew_59 : decode cX11_startAnew 59 = .ok (.putfield 315, 3) := by decide +kernel
theorem dX11_startAnew_62 : decode cX11_startAnew 62 = .ok (.aload_n 0, 1) := by decide +kernel
theorem dX11_startAnew_63 : decode cX11_startAnew 63 = .ok (.iconst 0, 1) := by decide +kernel
theorem dX11_startAnew_64 : decode cX11_startAnew 64 = .ok (.putfield 296, 3) := by decide +kernel
theorem dX11_startAnew_67 : decode cX11_startAnew 67 = .ok (.iconst 0, 1) := by decide +kernel
theorem dX11_startAnew_68 : decode cX11_startAnew 68 = .ok (.istore_n 1, 1) := by decide +kernel
theorem dX11_startAnew_69 : decode cX11_startAnew 69 = .ok (.iload_n 1, 1) := by decide +kernel
theorem dX11_startAnew_70 : decode cX11_startAnew 70 = .ok (.iconst 3, 1) := by decide +kernel
theorem dX11_startAnew_71 : decode cX11_startAnew 71 = .ok (.if_icmp .ge 16, 3) := by decide +kernel
theorem dX11_startAnew_74 : decode cX11_startAnew 74 = .ok (.aload_n 0, 1) := by decide +kernel
theorem dX11_startAnew_75 : decode cX11_startAnew 75 = .ok (.getfield 69, 3) := by decide +kernel
theorem dX11_startAnew_78 : decode cX11_startAnew 78 = .ok (.iload_n 1, 1) := by decide +kernel
theorem dX11_startAnew_79 : decode cX11_startAnew 79 = .ok (.iconst 0, 1) := by decide +kernel
theorem dX11_startAnew_80 : decode cX11_startAnew 80 = .ok (.bastore, 1) := by decide +kernel
theorem dX11_startAnew_81 : decode cX11_startAnew 81 = .ok (.iinc 1 1, 3) := by decide +kernel
theorem dX11_startAnew_84 : decode cX11_startAnew 84 = .ok (.goto (-15), 3) := by decide +kernel
theorem dX11_startAnew_87 : decode cX11_startAnew 87 = .ok (.return_, 1) := by decide +kernel
theorem dX11_goOnFrom_0 : decode cX11_goOnFrom 0 = .ok (.aload_n 0, 1) := by decide +kernel
theorem dX11_goOnFrom_1 : decode cX11_goOnFrom 1 = .ok (.getfield 47, 3) := by decide +kernel
theorem dX11_goOnFrom_4 : decode cX11_goOnFrom 4 = .ok (.aload_n 1, 1) := by decide +kernel
theorem dX11_goOnFrom_5 : decode cX11_goOnFrom 5 = .ok (.invokevirtual 335, 3) := by decide +kernel
theorem dX11_goOnFrom_8 : decode cX11_goOnFrom 8 = .ok (.aload_n 0, 1) := by decide +kernel
theorem dX11_goOnFrom_9 : decode cX11_goOnFrom 9 = .ok (.getfield 31, 3) := by decide +kernel
theorem dX11_goOnFrom_12 : decode cX11_goOnFrom 12 = .ok (.getfield 165, 3) := by decide +kernel
theorem dX11_goOnFrom_15 : decode cX11_goOnFrom 15 = .ok (.aload_n 0, 1) := by decide +kernel
theorem dX11_goOnFrom_16 : decode cX11_goOnFrom 16 = .ok (.getfield 19, 3) := by decide +kernel
theorem dX11_goOnFrom_19 : decode cX11_goOnFrom 19 = .ok (.aload_n 0, 1) := by decide +kernel
theorem dX11_goOnFrom_20 : decode cX11_goOnFrom 20 = .ok (.getfield 47, 3) := by decide +kernel
theorem dX11_goOnFrom_23 : decode cX11_goOnFrom 23 = .ok (.getfield 212, 3) := by decide +kernel
theorem dX11_goOnFrom_26 : decode cX11_goOnFrom 26 = .ok (.invokevirtual 215, 3) := by decide +kernel
theorem dX11_goOnFrom_29 : decode cX11_goOnFrom 29 = .ok (.return_, 1) := by decide +kernel
theorem dX11_passedBy_0 : decode cX11_passedBy 0 = .ok (.iconst 0, 1) := by decide +kernel
theorem dX11_passedBy_1 : decode cX11_passedBy 1 = .ok (.istore_n 2, 1) := by decide +kernel
theorem dX11_passedBy_2 : decode cX11_passedBy 2 = .ok (.iconst 0, 1) := by decide +kernel
theorem dX11_passedBy_3 : decode cX11_passedBy 3 = .ok (.istore_n 3, 1) := by decide +kernel
theorem dX11_passedBy_4 : decode cX11_passedBy 4 = .ok (.iload_n 3, 1) := by decide +kernel
theorem dX11_passedBy_5 : decode cX11_passedBy 5 = .ok (.aload_n 0, 1) := by decide +kernel
theorem dX11_passedBy_6 : decode cX11_passedBy 6 = .ok (.getfield 19, 3) := by decide +kernel
theorem dX11_passedBy_9 : decode cX11_passedBy 9 = .ok (.getfield 107, 3) := by decide +kernel
theorem dX11_passedBy_12 : decode cX11_passedBy 12 = .ok (.if_icmp .ge 33, 3) := by decide +kernel
theorem dX11_passedBy_15 : decode cX11_passedBy 15 = .ok (.iload_n 1, 1) := by decide +kernel
theorem dX11_passedBy_16 : decode cX11_passedBy 16 = .ok (.iload_n 3, 1) := by decide +kernel
theorem dX11_passedBy_17 : decode cX11_passedBy 17 = .ok (.ishr, 1) := by decide +kernel
theorem dX11_passedBy_18 : decode cX11_passedBy 18 = .ok (.iconst 1, 1) := by decide +kernel
theorem dX11_passedBy_19 : decode cX11_passedBy 19 = .ok (.iand, 1) := by decide +kernel
theorem dX11_passedBy_20 : decode cX11_passedBy 20 = .ok (.iconst 1, 1) := by decide +kernel
theorem dX11_passedBy_21 : decode cX11_passedBy 21 = .ok (.if_icmp .ne 18, 3) := by decide +kernel
theorem dX11_passedBy_24 : decode cX11_passedBy 24 = .ok (.iload_n 2, 1) := by decide +kernel
theorem dX11_passedBy_25 : decode cX11_passedBy 25 = .ok (.aload_n 0, 1) := by decide +kernel
theorem dX11_passedBy_26 : decode cX11_passedBy 26 = .ok (.getfield 31, 3) := by decide +kernel
theorem dX11_passedBy_29 : decode cX11_passedBy 29 = .ok (.aload_n 0, 1) := by decide +kernel
theorem dX11_passedBy_30 : decode cX11_passedBy 30 = .ok (.getfield 47, 3) := by decide +kernel
theorem dX11_passedBy_33 : decode cX11_passedBy 33 = .ok (.iload_n 3, 1) := by decide +kernel
theorem dX11_passedBy_34 : decode cX11_passedBy 34 = .ok (.invokevirtual 129, 3) := by decide +kernel
theorem dX11_passedBy_37 : decode cX11_passedBy 37 = .ok (.ior, 1) := by decide +kernel
theorem dX11_passedBy_38 : decode cX11_passedBy 38 = .ok (.istore_n 2, 1) := by decide +kernel
theorem dX11_passedBy_39 : decode cX11_passedBy 39 = .ok (.iinc 3 1, 3) := by decide +kernel
theorem dX11_passedBy_42 : decode cX11_passedBy 42 = .ok (.goto (-38), 3) := by decide +kernel
theorem dX11_passedBy_45 : decode cX11_passedBy 45 = .ok (.iload_n 2, 1) := by decide +kernel
theorem dX11_passedBy_46 : decode cX11_passedBy 46 = .ok (.ireturn, 1) := by decide +kernel
theorem dX11_fitting_0 : decode cX11_fitting 0 = .ok (.aload_n 0, 1) := by decide +kernel
theorem dX11_fitting_1 : decode cX11_fitting 1 = .ok (.getfield 61, 3) := by decide +kernel
theorem dX11_fitting_4 : decode cX11_fitting 4 = .ok (.iconst 1, 1) := by decide +kernel
theorem dX11_fitting_5 : decode cX11_fitting 5 = .ok (.iload_n 2, 1) := by decide +kernel
theorem dX11_fitting_6 : decode cX11_fitting 6 = .ok (.invokevirtual 358, 3) := by decide +kernel
theorem dX11_fitting_9 : decode cX11_fitting 9 = .ok (.istore_n 3, 1) := by decide +kernel
theorem dX11_fitting_10 : decode cX11_fitting 10 = .ok (.aload_n 0, 1) := by decide +kernel
theorem dX11_fitting_11 : decode cX11_fitting 11 = .ok (.getfield 61, 3) := by decide +kernel
theorem dX11_fitting_14 : decode cX11_fitting 14 = .ok (.iconst 0, 1) := by decide +kernel
theorem dX11_fitting_15 : decode cX11_fitting 15 = .ok (.iload_n 2, 1) := by decide +kernel
theorem dX11_fitting_16 : decode cX11_fitting 16 = .ok (.invokevirtual 358, 3) := by decide +kernel
theorem dX11_fitting_19 : decode cX11_fitting 19 = .ok (.istore 4, 2) := by decide +kernel
theorem dX11_fitting_21 : decode cX11_fitting 21 = .ok (.iconst 0, 1) := by decide +kernel
theorem dX11_fitting_22 : decode cX11_fitting 22 = .ok (.istore 5, 2) := by decide +kernel
theorem dX11_fitting_24 : decode cX11_fitting 24 = .ok (.iconst 0, 1) := by decide +kernel
theorem dX11_fitting_25 : decode cX11_fitting 25 = .ok (.istore 6, 2) := by decide +kernel
theorem dX11_fitting_27 : decode cX11_fitting 27 = .ok (.iload 6, 2) := by decide +kernel
theorem dX11_fitting_29 : decode cX11_fitting 29 = .ok (.aload_n 0, 1) := by decide +kernel
theorem dX11_fitting_30 : decode cX11_fitting 30 = .ok (.getfield 19, 3) := by decide +kernel
theorem dX11_fitting_33 : decode cX11_fitting 33 = .ok (.getfield 155, 3) := by decide +kernel
theorem dX11_fitting_36 : decode cX11_fitting 36 = .ok (.if_icmp .ge 76, 3) := by decide +kernel
theorem dX11_fitting_39 : decode cX11_fitting 39 = .ok (.iload 6, 2) := by decide +kernel
theorem dX11_fitting_41 : decode cX11_fitting 41 = .ok (.iload_n 1, 1) := by decide +kernel
theorem dX11_fitting_42 : decode cX11_fitting 42 = .ok (.if_icmp .eq 64, 3) := by decide +kernel
theorem dX11_fitting_45 : decode cX11_fitting 45 = .ok (.aload_n 0, 1) := by decide +kernel
theorem dX11_fitting_46 : decode cX11_fitting 46 = .ok (.getfield 40, 3) := by decide +kernel
theorem dX11_fitting_49 : decode cX11_fitting 49 = .ok (.aload_n 0, 1) := by decide +kernel
theorem dX11_fitting_50 : decode cX11_fitting 50 = .ok (.getfield 47, 3) := by decide +kernel
theorem dX11_fitting_53 : decode cX11_fitting 53 = .ok (.iload 6, 2) := by decide +kernel
theorem dX11_fitting_55 : decode cX11_fitting 55 = .ok (.iload_n 1, 1) := by decide +kernel
theorem dX11_fitting_56 : decode cX11_fitting 56 = .ok (.invokevirtual 299, 3) := by decide +kernel
theorem dX11_fitting_59 : decode cX11_fitting 59 = .ok (.pop, 1) := by decide +kernel
theorem dX11_fitting_60 : decode cX11_fitting 60 = .ok (.aload_n 0, 1) := by decide +kernel
theorem dX11_fitting_61 : decode cX11_fitting 61 = .ok (.getfield 40, 3) := by decide +kernel
theorem dX11_fitting_64 : decode cX11_fitting 64 = .ok (.getfield 362, 3) := by decide +kernel
theorem dX11_fitting_67 : decode cX11_fitting 67 = .ok (.istore 7, 2) := by decide +kernel
theorem dX11_fitting_69 : decode cX11_fitting 69 = .ok (.aload_n 0, 1) := by decide +kernel
theorem dX11_fitting_70 : decode cX11_fitting 70 = .ok (.getfield 40, 3) := by decide +kernel
theorem dX11_fitting_73 : decode cX11_fitting 73 = .ok (.getfield 365, 3) := by decide +kernel
theorem dX11_fitting_76 : decode cX11_fitting 76 = .ok (.iload 6, 2) := by decide +kernel
theorem dX11_fitting_78 : decode cX11_fitting 78 = .ok (.iload 7, 2) := by decide +kernel
theorem dX11_fitting_80 : decode cX11_fitting 80 = .ok (.iastore, 1) := by decide +kernel
theorem dX11_fitting_81 : decode cX11_fitting 81 = .ok (.iload 7, 2) := by decide +kernel
theorem dX11_fitting_83 : decode cX11_fitting 83 = .ok (.iload_n 3, 1) := by decide +kernel
theorem dX11_fitting_84 : decode cX11_fitting 84 = .ok (.iand, 1) := by decide +kernel
theorem dX11_fitting_85 : decode cX11_fitting 85 = .ok (.iload_n 3, 1) := by decide +kernel
theorem dX11_fitting_86 : decode cX11_fitting 86 = .ok (.if_icmp .ne 20, 3) := by decide +kernel
theorem dX11_fitting_89 : decode cX11_fitting 89 = .ok (.iload 7, 2) := by decide +kernel
theorem dX11_fitting_91 : decode cX11_fitting 91 = .ok (.iload 4, 2) := by decide +kernel
theorem dX11_fitting_93 : decode cX11_fitting 93 = .ok (.iand, 1) := by decide +kernel
theorem dX11_fitting_94 : decode cX11_fitting 94 = .ok (.ifCond .ne 12, 3) := by decide +kernel
theorem dX11_fitting_97 : decode cX11_fitting 97 = .ok (.iload 5, 2) := by decide +kernel
theorem dX11_fitting_99 : decode cX11_fitting 99 = .ok (.iconst 1, 1) := by decide +kernel
theorem dX11_fitting_100 : decode cX11_fitting 100 = .ok (.iload 6, 2) := by decide +kernel
theorem dX11_fitting_102 : decode cX11_fitting 102 = .ok (.ishl, 1) := by decide +kernel
theorem dX11_fitting_103 : decode cX11_fitting 103 = .ok (.ior, 1) := by decide +kernel
theorem dX11_fitting_104 : decode cX11_fitting 104 = .ok (.istore 5, 2) := by decide +kernel
theorem dX11_fitting_106 : decode cX11_fitting 106 = .ok (.iinc 6 1, 3) := by decide +kernel
theorem dX11_fitting_109 : decode cX11_fitting 109 = .ok (.goto (-82), 3) := by decide +kernel
theorem dX11_fitting_112 : decode cX11_fitting 112 = .ok (.iload 5, 2) := by decide +kernel
theorem dX11_fitting_114 : decode cX11_fitting 114 = .ok (.ireturn, 1) := by decide +kernel
theorem dX12_init_0 : decode cX12_init 0 = .ok (.aload_n 0, 1) := by decide +kernel
theorem dX12_init_1 : decode cX12_init 1 = .ok (.invokespecial 1, 3) := by decide +kernel
theorem dX12_init_4 : decode cX12_init 4 = .ok (.aload_n 0, 1) := by decide +kernel
theorem dX12_init_5 : decode cX12_init 5 = .ok (.sipush 1600, 3) := by decide +kernel
theorem dX12_init_8 : decode cX12_init 8 = .ok (.newarray .int, 2) := by decide +kernel
theorem dX12_init_10 : decode cX12_init 10 = .ok (.putfield 7, 3) := by decide +kernel
theorem dX12_init_13 : decode cX12_init 13 = .ok (.aload_n 0, 1) := by decide +kernel
theorem dX12_init_14 : decode cX12_init 14 = .ok (.iconst (-1), 1) := by decide +kernel
theorem dX12_init_15 : decode cX12_init 15 = .ok (.putfield 13, 3) := by decide +kernel
theorem dX12_init_18 : decode cX12_init 18 = .ok (.aload_n 0, 1) := by decide +kernel
theorem dX12_init_19 : decode cX12_init 19 = .ok (.bipush 21, 2) := by decide +kernel
theorem dX12_init_21 : decode cX12_init 21 = .ok (.newarray .long, 2) := by decide +kernel
theorem dX12_init_23 : decode cX12_init 23 = .ok (.putfield 17, 3) := by decide +kernel
theorem dX12_init_26 : decode cX12_init 26 = .ok (.aload_n 0, 1) := by decide +kernel
theorem dX12_init_27 : decode cX12_init 27 = .ok (.sipush 320, 3) := by decide +kernel
theorem dX12_init_30 : decode cX12_init 30 = .ok (.newarray .int, 2) := by decide +kernel
theorem dX12_init_32 : decode cX12_init 32 = .ok (.putfield 21, 3) := by decide +kernel
theorem dX12_init_35 : decode cX12_init 35 = .ok (.aload_n 0, 1) := by decide +kernel
theorem dX12_init_36 : decode cX12_init 36 = .ok (.sipush 320, 3) := by decide +kernel
theorem dX12_init_39 : decode cX12_init 39 = .ok (.newarray .int, 2) := by decide +kernel
theorem dX12_init_41 : decode cX12_init 41 = .ok (.putfield 24, 3) := by decide +kernel
theorem dX12_init_44 : decode cX12_init 44 = .ok (.aload_n 0, 1) := by decide +kernel
theorem dX12_init_45 : decode cX12_init 45 = .ok (.sipush 320, 3) := by decide +kernel
theorem dX12_init_48 : decode cX12_init 48 = .ok (.newarray .int, 2) := by decide +kernel
theorem dX12_init_50 : decode cX12_init 50 = .ok (.putfield 27, 3) := by decide +kernel
theorem dX12_init_53 : decode cX12_init 53 = .ok (.aload_n 0, 1) := by decide +kernel
theorem dX12_init_54 : decode cX12_init 54 = .ok (.sipush 320, 3) := by decide +kernel
theorem dX12_init_57 : decode cX12_init 57 = .ok (.newarray .int, 2) := by decide +kernel
theorem dX12_init_59 : decode cX12_init 59 = .ok (.putfield 30, 3) := by decide +kernel
theorem dX12_init_62 : decode cX12_init 62 = .ok (.aload_n 0, 1) := by decide +kernel
theorem dX12_init_63 : decode cX12_init 63 = .ok (.sipush 160, 3) := by decide +kernel
theorem dX12_init_66 : decode cX12_init 66 = .ok (.newarray .int, 2) := by decide +kernel
theorem dX12_init_68 : decode cX12_init 68 = .ok (.putfield 33, 3) := by decide +kernel
theorem dX12_init_71 : decode cX12_init 71 = .ok (.aload_n 0, 1) := by decide +kernel
theorem dX12_init_72 : decode cX12_init 72 = .ok (.bipush 64, 2) := by decide +kernel
theorem dX12_init_74 : decode cX12_init 74 = .ok (.newarray .int, 2) := by decide +kernel
theorem dX12_init_76 : decode cX12_init 76 = .ok (.putfield 36, 3) := by decide +kernel
theorem dX12_init_79 : decode cX12_init 79 = .ok (.aload_n 0, 1) := by decide +kernel
theorem dX12_init_80 : decode cX12_init 80 = .ok (.iconst 4, 1) := by decide +kernel
theorem dX12_init_81 : decode cX12_init 81 = .ok (.newarray .int, 2) := by decide +kernel
theorem dX12_init_83 : decode cX12_init 83 = .ok (.putfield 39, 3) := by decide +kernel
theorem dX12_init_86 : decode cX12_init 86 = .ok (.aload_n 0, 1) := by decide +kernel
theorem dX12_init_87 : decode cX12_init 87 = .ok (.bipush 12, 2) := by decide +kernel
theorem dX12_init_89 : decode cX12_init 89 = .ok (.newarray .int, 2) := by decide +kernel
theorem dX12_init_91 : decode cX12_init 91 = .ok (.putfield 42, 3) := by decide +kernel
theorem dX12_init_94 : decode cX12_init 94 = .ok (.aload_n 0, 1) := by decide +kernel
theorem dX12_init_95 : decode cX12_init 95 = .ok (.bipush 12, 2) := by decide +kernel
theorem dX12_init_97 : decode cX12_init 97 = .ok (.newarray .int, 2) := by decide +kernel
theorem dX12_init_99 : decode cX12_init 99 = .ok (.putfield 45, 3) := by decide +kernel
theorem dX12_init_102 : decode cX12_init 102 = .ok (.aload_n 0, 1) := by decide +kernel
theorem dX12_init_103 : decode cX12_init 103 = .ok (.bipush 12, 2) := by decide +kernel
theorem dX12_init_105 : decode cX12_init 105 = .ok (.newarray .int, 2) := by decide +kernel
theorem dX12_init_107 : decode cX12_init 107 = .ok (.putfield 48, 3) := by decide +kernel
theorem dX12_init_110 : decode cX12_init 110 = .ok (.aload_n 0, 1) := by decide +kernel
theorem dX12_init_111 : decode cX12_init 111 = .ok (.bipush 12, 2) := by decide +kernel
theorem dX12_init_113 : decode cX12_init 113 = .ok (.newarray .int, 2) := by decide +kernel
theorem dX12_init_115 : decode cX12_init 115 = .ok (.putfield 51, 3) := by decide +kernel
theorem dX12_init_118 : decode cX12_init 118 = .ok (.aload_n 0, 1) := by decide +kernel
theorem dX12_init_119 : decode cX12_init 119 = .ok (.bipush 12, 2) := by decide +kernel
theorem dX12_init_121 : decode cX12_init 121 = .ok (.newarray .int, 2) := by decide +kernel
theorem dX12_init_123 : decode cX12_init 123 = .ok (.putfield 54, 3) := by decide +kernel
theorem dX12_init_126 : decode cX12_init 126 = .ok (.aload_n 0, 1) := by decide +kernel
theorem dX12_init_127 : decode cX12_init 127 = .ok (.bipush 12, 2) := by decide +kernel
theorem dX12_init_129 : decode cX12_init 129 = .ok (.newarray .int, 2) := by decide +kernel
theorem dX12_init_131 : decode cX12_init 131 = .ok (.putfield 57, 3) := by decide +kernel
theorem dX12_init_134 : decode cX12_init 134 = .ok (.aload_n 0, 1) := by decide +kernel
theorem dX12_init_135 : decode cX12_init 135 = .ok (.bipush 6, 2) := by decide +kernel
theorem dX12_init_137 : decode cX12_init 137 = .ok (.newarray .int, 2) := by decide +kernel
theorem dX12_init_139 : decode cX12_init 139 = .ok (.putfield 60, 3) := by decide +kernel
theorem dX12_init_142 : decode cX12_init 142 = .ok (.aload_n 0, 1) := by decide +kernel
theorem dX12_init_143 : decode cX12_init 143 = .ok (.bipush 6, 2) := by decide +kernel
theorem dX12_init_145 : decode cX12_init 145 = .ok (.newarray .int, 2) := by decide +kernel
theorem dX12_init_147 : decode cX12_init 147 = .ok (.putfield 63, 3) := by decide +kernel
theorem dX12_init_150 : decode cX12_init 150 = .ok (.aload_n 0, 1) := by decide +kernel
theorem dX12_init_151 : decode cX12_init 151 = .ok (.bipush 6, 2) := by decide +kernel
theorem dX12_init_153 : decode cX12_init 153 = .ok (.newarray .int, 2) := by decide +kernel
theorem dX12_init_155 : decode cX12_init 155 = .ok (.putfield 66, 3) := by decide +kernel
theorem dX12_init_158 : decode cX12_init 158 = .ok (.aload_n 0, 1) := by decide +kernel
theorem dX12_init_159 : decode cX12_init 159 = .ok (.bipush 6, 2) := by decide +kernel
theorem dX12_init_161 : decode cX12_init 161 = .ok (.newarray .int, 2) := by decide +kernel
theorem dX12_init_163 : decode cX12_init 163 = .ok (.putfield 69, 3) := by decide +kernel
theorem dX12_init_166 : decode cX12_init 166 = .ok (.aload_n 0, 1) := by decide +kernel
theorem dX12_init_167 : decode cX12_init 167 = .ok (.bipush 6, 2) := by decide +kernel
theorem dX12_init_169 : decode cX12_init 169 = .ok (.newarray .int, 2) := by decide +kernel
theorem dX12_init_171 : decode cX12_init 171 = .ok (.putfield 72, 3) := by decide +kernel
theorem dX12_init_174 : decode cX12_init 174 = .ok (.aload_n 0, 1) := by decide +kernel
theorem dX12_init_175 : decode cX12_init 175 = .ok (.bipush 6, 2) := by decide +kernel
theorem dX12_init_177 : decode cX12_init 177 = .ok (.newarray .int, 2) := by decide +kernel
theorem dX12_init_179 : decode cX12_init 179 = .ok (.putfield 75, 3) := by decide +kernel
theorem dX12_init_182 : decode cX12_init 182 = .ok (.aload_n 0, 1) := by decide +kernel
theorem dX12_init_183 : decode cX12_init 183 = .ok (.bipush 6, 2) := by decide +kernel
theorem dX12_init_185 : decode cX12_init 185 = .ok (.newarray .int, 2) := by decide +kernel
theorem dX12_init_187 : decode cX12_init 187 = .ok (.putfield 78, 3) := by decide +kernel
theorem dX12_init_190 : decode cX12_init 190 = .ok (.aload_n 0, 1) := by decide +kernel
theorem dX12_init_191 : decode cX12_init 191 = .ok (.bipush 6, 2) := by decide +kernel
theorem dX12_init_193 : decode cX12_init 193 = .ok (.newarray .int, 2) := by decide +kernel
theorem dX12_init_195 : decode cX12_init 195 = .ok (.putfield 81, 3) := by decide +kernel
theorem dX12_init_198 : decode cX12_init 198 = .ok (.aload_n 0, 1) := by decide +kernel
theorem dX12_init_199 : decode cX12_init 199 = .ok (.bipush 8, 2) := by decide +kernel
theorem dX12_init_201 : decode cX12_init 201 = .ok (.newarray .int, 2) := by decide +kernel
theorem dX12_init_203 : decode cX12_init 203 = .ok (.putfield 84, 3) := by decide +kernel
theorem dX12_init_206 : decode cX12_init 206 = .ok (.aload_n 0, 1) := by decide +kernel
theorem dX12_init_207 : decode cX12_init 207 = .ok (.bipush 8, 2) := by decide +kernel
theorem dX12_init_209 : decode cX12_init 209 = .ok (.newarray .int, 2) := by decide +kernel
theorem dX12_init_211 : decode cX12_init 211 = .ok (.putfield 87, 3) := by decide +kernel
theorem dX12_init_214 : decode cX12_init 214 = .ok (.aload_n 0, 1) := by decide +kernel
theorem dX12_init_215 : decode cX12_init 215 = .ok (.bipush 8, 2) := by decide +kernel
theorem dX12_init_217 : decode cX12_init 217 = .ok (.newarray .int, 2) := by decide +kernel
theorem dX12_init_219 : decode cX12_init 219 = .ok (.putfield 90, 3) := by decide +kernel
theorem dX12_init_222 : decode cX12_init 222 = .ok (.aload_n 0, 1) := by decide +kernel
theorem dX12_init_223 : decode cX12_init 223 = .ok (.bipush 8, 2) := by decide +kernel
theorem dX12_init_225 : decode cX12_init 225 = .ok (.newarray .int, 2) := by decide +kernel
theorem dX12_init_227 : decode cX12_init 227 = .ok (.putfield 93, 3) := by decide +kernel
theorem dX12_init_230 : decode cX12_init 230 = .ok (.aload_n 0, 1) := by decide +kernel
theorem dX12_init_231 : decode cX12_init 231 = .ok (.sipush 300, 3) := by decide +kernel
theorem dX12_init_234 : decode cX12_init 234 = .ok (.putfield 96, 3) := by decide +kernel
theorem dX12_init_237 : decode cX12_init 237 = .ok (.aload_n 0, 1) := by decide +kernel
theorem dX12_init_238 : decode cX12_init 238 = .ok (.bipush 92, 2) := by decide +kernel
theorem dX12_init_240 : decode cX12_init 240 = .ok (.newarray .int, 2) := by decide +kernel
theorem dX12_init_242 : decode cX12_init 242 = .ok (.putfield 99, 3) := by decide +kernel
theorem dX12_init_245 : decode cX12_init 245 = .ok (.aload_n 0, 1) := by decide +kernel
theorem dX12_init_246 : decode cX12_init 246 = .ok (.bipush 92, 2) := by decide +kernel
theorem dX12_init_248 : decode cX12_init 248 = .ok (.newarray .int, 2) := by decide +kernel
theorem dX12_init_250 : decode cX12_init 250 = .ok (.putfield 102, 3) := by decide +kernel
theorem dX12_init_253 : decode cX12_init 253 = .ok (.aload_n 0, 1) := by decide +kernel
theorem dX12_init_254 : decode cX12_init 254 = .ok (.bipush 49, 2) := by decide +kernel
theorem dX12_init_256 : decode cX12_init 256 = .ok (.newarray .int, 2) := by decide +kernel
theorem dX12_init_258 : decode cX12_init 258 = .ok (.putfield 105, 3) := by decide +kernel
theorem dX12_init_261 : decode cX12_init 261 = .ok (.aload_n 0, 1) := by decide +kernel
theorem dX12_init_262 : decode cX12_init 262 = .ok (.bipush 20, 2) := by decide +kernel
theorem dX12_init_264 : decode cX12_init 264 = .ok (.newarray .int, 2) := by decide +kernel
theorem dX12_init_266 : decode cX12_init 266 = .ok (.putfield 108, 3) := by decide +kernel
theorem dX12_init_269 : decode cX12_init 269 = .ok (.aload_n 0, 1) := by decide +kernel
theorem dX12_init_270 : decode cX12_init 270 = .ok (.sipush 3680, 3) := by decide +kernel
theorem dX12_init_273 : decode cX12_init 273 = .ok (.newarray .int, 2) := by decide +kernel
theorem dX12_init_275 : decode cX12_init 275 = .ok (.putfield 111, 3) := by decide +kernel
theorem dX12_init_278 : decode cX12_init 278 = .ok (.aload_n 0, 1) := by decide +kernel
theorem dX12_init_279 : decode cX12_init 279 = .ok (.bipush 42, 2) := by decide +kernel
theorem dX12_init_281 : decode cX12_init 281 = .ok (.newarray .int, 2) := by decide +kernel
theorem dX12_init_283 : decode cX12_init 283 = .ok (.putfield 114, 3) := by decide +kernel
theorem dX12_init_286 : decode cX12_init 286 = .ok (.aload_n 0, 1) := by decide +kernel
theorem dX12_init_287 : decode cX12_init 287 = .ok (.bipush 7, 2) := by decide +kernel
theorem dX12_init_289 : decode cX12_init 289 = .ok (.newarray .int, 2) := by decide +kernel
theorem dX12_init_291 : decode cX12_init 291 = .ok (.putfield 117, 3) := by decide +kernel
theorem dX12_init_294 : decode cX12_init 294 = .ok (.aload_n 0, 1) := by decide +kernel
theorem dX12_init_295 : decode cX12_init 295 = .ok (.bipush 20, 2) := by decide +kernel
theorem dX12_init_297 : decode cX12_init 297 = .ok (.newarray .int, 2) := by decide +kernel
theorem dX12_init_299 : decode cX12_init 299 = .ok (.putfield 120, 3) := by decide +kernel
theorem dX12_init_302 : decode cX12_init 302 = .ok (.aload_n 0, 1) := by decide +kernel
theorem dX12_init_303 : decode cX12_init 303 = .ok (.bipush 30, 2) := by decide +kernel
theorem dX12_init_305 : decode cX12_init 305 = .ok (.newarray .int, 2) := by decide +kernel
theorem dX12_init_307 : decode cX12_init 307 = .ok (.putfield 123, 3) := by decide +kernel
theorem dX12_init_310 : decode cX12_init 310 = .ok (.aload_n 0, 1) := by decide +kernel
theorem dX12_init_311 : decode cX12_init 311 = .ok (.bipush 30, 2) := by decide +kernel
theorem dX12_init_313 : decode cX12_init 313 = .ok (.newarray .int, 2) := by decide +kernel
theorem dX12_init_315 : decode cX12_init 315 = .ok (.putfield 126, 3) := by decide +kernel
theorem dX12_init_318 : decode cX12_init 318 = .ok (.aload_n 0, 1) := by decide +kernel
theorem dX12_init_319 : decode cX12_init 319 = .ok (.bipush 30, 2) := by decide +kernel
theorem dX12_init_321 : decode cX12_init 321 = .ok (.newarray .int, 2) := by decide +kernel
theorem dX12_init_323 : decode cX12_init 323 = .ok (.putfield 129, 3) := by decide +kernel
theorem dX12_init_326 : decode cX12_init 326 = .ok (.aload_n 0, 1) := by decide +kernel
theorem dX12_init_327 : decode cX12_init 327 = .ok (.bipush 30, 2) := by decide +kernel
theorem dX12_init_329 : decode cX12_init 329 = .ok (.newarray .boolean, 2) := by decide +kernel
theorem dX12_init_331 : decode cX12_init 331 = .ok (.putfield 132, 3) := by decide +kernel
theorem dX12_init_334 : decode cX12_init 334 = .ok (.aload_n 0, 1) := by decide +kernel
theorem dX12_init_335 : decode cX12_init 335 = .ok (.bipush 7, 2) := by decide +kernel
theorem dX12_init_337 : decode cX12_init 337 = .ok (.newarray .int, 2) := by decide +kernel
theorem dX12_init_339 : decode cX12_init 339 = .ok (.putfield 136, 3) := by decide +kernel
theorem dX12_init_342 : decode cX12_init 342 = .ok (.aload_n 0, 1) := by decide +kernel
theorem dX12_init_343 : decode cX12_init 343 = .ok (.iconst 3, 1) := by decide +kernel
theorem dX12_init_344 : decode cX12_init 344 = .ok (.newarray .boolean, 2) := by decide +kernel
theorem dX12_init_346 : decode cX12_init 346 = .ok (.putfield 139, 3) := by decide +kernel
theorem dX12_init_349 : decode cX12_init 349 = .ok (.aload_n 0, 1) := by decide +kernel
theorem dX12_init_350 : decode cX12_init 350 = .ok (.sipush 276, 3) := by decide +kernel
theorem dX12_init_353 : decode cX12_init 353 = .ok (.newarray .int, 2) := by decide +kernel
theorem dX12_init_355 : decode cX12_init 355 = .ok (.putfield 142, 3) := by decide +kernel
theorem dX12_init_358 : decode cX12_init 358 = .ok (.return_, 1) := by decide +kernel
theorem dX12_feed_0 : decode cX12_feed 0 = .ok (.aload_n 0, 1) := by decide +kernel
theorem dX12_feed_1 : decode cX12_feed 1 = .ok (.getfield 145, 3) := by decide +kernel
theorem dX12_feed_4 : decode cX12_feed 4 = .ok (.bipush 20, 2) := by decide +kernel
theorem dX12_feed_6 : decode cX12_feed 6 = .ok (.iadd, 1) := by decide +kernel
theorem dX12_feed_7 : decode cX12_feed 7 = .ok (.sipush 1600, 3) := by decide +kernel
theorem dX12_feed_10 : decode cX12_feed 10 = .ok (.if_icmp .le 5, 3) := by decide +kernel
theorem dX12_feed_13 : decode cX12_feed 13 = .ok (.iconst (-1), 1) := by decide +kernel
theorem dX12_feed_14 : decode cX12_feed 14 = .ok (.ireturn, 1) := by decide +kernel
theorem dX12_feed_15 : decode cX12_feed 15 = .ok (.aload_n 0, 1) := by decide +kernel
theorem dX12_feed_16 : decode cX12_feed 16 = .ok (.iload_n 1, 1) := by decide +kernel
theorem dX12_feed_17 : decode cX12_feed 17 = .ok (.invokevirtual 148, 3) := by decide +kernel
theorem dX12_feed_20 : decode cX12_feed 20 = .ok (.aload_n 0, 1) := by decide +kernel
theorem dX12_feed_21 : decode cX12_feed 21 = .ok (.iload_n 2, 1) := by decide +kernel
theorem dX12_feed_22 : decode cX12_feed 22 = .ok (.invokevirtual 148, 3) := by decide +kernel
theorem dX12_feed_25 : decode cX12_feed 25 = .ok (.aload_n 0, 1) := by decide +kernel
theorem dX12_feed_26 : decode cX12_feed 26 = .ok (.iload_n 3, 1) := by decide +kernel
theorem dX12_feed_27 : decode cX12_feed 27 = .ok (.invokevirtual 148, 3) := by decide +kernel
theorem dX12_feed_30 : decode cX12_feed 30 = .ok (.aload_n 0, 1) := by decide +kernel
theorem dX12_feed_31 : decode cX12_feed 31 = .ok (.iload 4, 2) := by decide +kernel
theorem dX12_feed_33 : decode cX12_feed 33 = .ok (.invokevirtual 148, 3) := by decide +kernel
theorem dX12_feed_36 : decode cX12_feed 36 = .ok (.aload_n 0, 1) := by decide +kernel
theorem dX12_feed_37 : decode cX12_feed 37 = .ok (.iload 5, 2) := by decide +kernel
theorem dX12_feed_39 : decode cX12_feed 39 = .ok (.invokevirtual 148, 3) := by decide +kernel
theorem dX12_feed_42 : decode cX12_feed 42 = .ok (.aload_n 0, 1) := by decide +kernel
theorem dX12_feed_43 : decode cX12_feed 43 = .ok (.getfield 145, 3) := by decide +kernel
theorem dX12_feed_46 : decode cX12_feed 46 = .ok (.ireturn, 1) := by decide +kernel
theorem dX12_four_0 : decode cX12_four 0 = .ok (.bipush 24, 2) := by decide +kernel
theorem dX12_four_2 : decode cX12_four 2 = .ok (.istore_n 2, 1) := by decide +kernel
theorem dX12_four_3 : decode cX12_four 3 = .ok (.iload_n 2, 1) := by decide +kernel
theorem dX12_four_4 : decode cX12_four 4 = .ok (.ifCond .lt 35, 3) := by decide +kernel
theorem dX12_four_7 : decode cX12_four 7 = .ok (.aload_n 0, 1) := by decide +kernel
theorem dX12_four_8 : decode cX12_four 8 = .ok (.getfield 7, 3) := by decide +kernel
theorem dX12_four_11 : decode cX12_four 11 = .ok (.aload_n 0, 1) := by decide +kernel
theorem dX12_four_12 : decode cX12_four 12 = .ok (.getfield 145, 3) := by decide +kernel
theorem dX12_four_15 : decode cX12_four 15 = .ok (.iload_n 1, 1) := by decide +kernel
theorem dX12_four_16 : decode cX12_four 16 = .ok (.iload_n 2, 1) := by decide +kernel
theorem dX12_four_17 : decode cX12_four 17 = .ok (.ishr, 1) := by decide +kernel
theorem dX12_four_18 : decode cX12_four 18 = .ok (.sipush 255, 3) := by decide +kernel
theorem dX12_four_21 : decode cX12_four 21 = .ok (.iand, 1) := by decide +kernel
theorem dX12_four_22 : decode cX12_four 22 = .ok (.iastore, 1) := by decide +kernel
theorem dX12_four_23 : decode cX12_four 23 = .ok (.aload_n 0, 1) := by decide +kernel
theorem dX12_four_24 : decode cX12_four 24 = .ok (.dup, 1) := by decide +kernel
theorem dX12_four_25 : decode cX12_four 25 = .ok (.getfield 145, 3) := by decide +kernel
theorem dX12_four_28 : decode cX12_four 28 = .ok (.iconst 1, 1) := by decide +kernel
theorem dX12_four_29 : decode cX12_four 29 = .ok (.iadd, 1) := by decide +kernel
theorem dX12_four_30 : decode cX12_four 30 = .ok (.putfield 145, 3) := by decide +kernel
theorem dX12_four_33 : decode cX12_four 33 = .ok (.iinc 2 (-8), 3) := by decide +kernel
theorem dX12_four_36 : decode cX12_four 36 = .ok (.goto (-33), 3) := by decide +kernel
theorem dX12_four_39 : decode cX12_four 39 = .ok (.return_, 1) := by decide +kernel
theorem dX12_end_0 : decode cX12_end 0 = .ok (.iload_n 1, 1) := by decide +kernel
theorem dX12_end_1 : decode cX12_end 1 = .ok (.ifCond .lt 11, 3) := by decide +kernel
theorem dX12_end_4 : decode cX12_end 4 = .ok (.iload_n 1, 1) := by decide +kernel
theorem dX12_end_5 : decode cX12_end 5 = .ok (.aload_n 0, 1) := by decide +kernel
theorem dX12_end_6 : decode cX12_end 6 = .ok (.getfield 145, 3) := by decide +kernel
theorem dX12_end_9 : decode cX12_end 9 = .ok (.if_icmp .le 5, 3) := by decide +kernel
theorem dX12_end_12 : decode cX12_end 12 = .ok (.iconst (-1), 1) := by decide +kernel
theorem dX12_end_13 : decode cX12_end 13 = .ok (.ireturn, 1) := by decide +kernel
theorem dX12_end_14 : decode cX12_end 14 = .ok (.aload_n 0, 1) := by decide +kernel
theorem dX12_end_15 : decode cX12_end 15 = .ok (.iload_n 1, 1) := by decide +kernel
theorem dX12_end_16 : decode cX12_end 16 = .ok (.putfield 145, 3) := by decide +kernel
theorem dX12_end_19 : decode cX12_end 19 = .ok (.iload_n 1, 1) := by decide +kernel
theorem dX12_end_20 : decode cX12_end 20 = .ok (.ireturn, 1) := by decide +kernel
theorem dX12_here_0 : decode cX12_here 0 = .ok (.aload_n 0, 1) := by decide +kernel
theorem dX12_here_1 : decode cX12_here 1 = .ok (.getfield 152, 3) := by decide +kernel
theorem dX12_here_4 : decode cX12_here 4 = .ok (.iload_n 1, 1) := by decide +kernel
theorem dX12_here_5 : decode cX12_here 5 = .ok (.iadd, 1) := by decide +kernel
theorem dX12_here_6 : decode cX12_here 6 = .ok (.aload_n 0, 1) := by decide +kernel
theorem dX12_here_7 : decode cX12_here 7 = .ok (.getfield 155, 3) := by decide +kernel
theorem dX12_here_10 : decode cX12_here 10 = .ok (.if_icmp .ge 17, 3) := by decide +kernel
theorem dX12_here_13 : decode cX12_here 13 = .ok (.aload_n 0, 1) := by decide +kernel
theorem dX12_here_14 : decode cX12_here 14 = .ok (.getfield 7, 3) := by decide +kernel
theorem dX12_here_17 : decode cX12_here 17 = .ok (.aload_n 0, 1) := by decide +kernel
theorem dX12_here_18 : decode cX12_here 18 = .ok (.getfield 152, 3) := by decide +kernel
theorem dX12_here_21 : decode cX12_here 21 = .ok (.iload_n 1, 1) := by decide +kernel
theorem dX12_here_22 : decode cX12_here 22 = .ok (.iadd, 1) := by decide +kernel
theorem dX12_here_23 : decode cX12_here 23 = .ok (.iaload, 1) := by decide +kernel
theorem dX12_here_24 : decode cX12_here 24 = .ok (.goto 4, 3) := by decide +kernel
theorem dX12_here_27 : decode cX12_here 27 = .ok (.iconst (-1), 1) := by decide +kernel
theorem dX12_here_28 : decode cX12_here 28 = .ok (.ireturn, 1) := by decide +kernel
theorem dX12_isLetter_0 : decode cX12_isLetter 0 = .ok (.iload_n 0, 1) := by decide +kernel
theorem dX12_isLetter_1 : decode cX12_isLetter 1 = .ok (.bipush 97, 2) := by decide +kernel
theorem dX12_isLetter_3 : decode cX12_isLetter 3 = .ok (.if_icmp .lt 13, 3) := by decide +kernel
theorem dX12_isLetter_6 : decode cX12_isLetter 6 = .ok (.iload_n 0, 1) := by decide +kernel
theorem dX12_isLetter_7 : decode cX12_isLetter 7 = .ok (.bipush 122, 2) := by decide +kernel
theorem dX12_isLetter_9 : decode cX12_isLetter 9 = .ok (.if_icmp .gt 7, 3) := by decide +kernel
theorem dX12_isLetter_12 : decode cX12_isLetter 12 = .ok (.iconst 1, 1) := by decide +kernel
theorem dX12_isLetter_13 : decode cX12_isLetter 13 = .ok (.goto 4, 3) := by decide +kernel
theorem dX12_isLetter_16 : decode cX12_isLetter 16 = .ok (.iconst 0, 1) := by decide +kernel
theorem dX12_isLetter_17 : decode cX12_isLetter 17 = .ok (.ireturn, 1) := by decide +kernel
theorem dX12_isDigit_0 : decode cX12_isDigit 0 = .ok (.iload_n 0, 1) := by decide +kernel
theorem dX12_isDigit_1 : decode cX12_isDigit 1 = .ok (.bipush 48, 2) := by decide +kernel
theorem dX12_isDigit_3 : decode cX12_isDigit 3 = .ok (.if_icmp .lt 13, 3) := by decide +kernel
theorem dX12_isDigit_6 : decode cX12_isDigit 6 = .ok (.iload_n 0, 1) := by decide +kernel
theorem dX12_isDigit_7 : decode cX12_isDigit 7 = .ok (.bipush 57, 2) := by decide +kernel
theorem dX12_isDigit_9 : decode cX12_isDigit 9 = .ok (.if_icmp .gt 7, 3) := by decide +kernel
theorem dX12_isDigit_12 : decode cX12_isDigit 12 = .ok (.iconst 1, 1) := by decide +kernel
theorem dX12_isDigit_13 : decode cX12_isDigit 13 = .ok (.goto 4, 3) := by decide +kernel
theorem dX12_isDigit_16 : decode cX12_isDigit 16 = .ok (.iconst 0, 1) := by decide +kernel
theorem dX12_isDigit_17 : decode cX12_isDigit 17 = .ok (.ireturn, 1) := by decide +kernel
theorem dX12_isSign_0 : decode cX12_isSign 0 = .ok (.iload_n 0, 1) := by decide +kernel
theorem dX12_isSign_1 : decode cX12_isSign 1 = .ok (.bipush 59, 2) := by decide +kernel
theorem dX12_isSign_3 : decode cX12_isSign 3 = .ok (.if_icmp .eq 63, 3) := by decide +kernel
theorem dX12_isSign_6 : decode cX12_isSign 6 = .ok (.iload_n 0, 1) := by decide +kernel
theorem dX12_isSign_7 : decode cX12_isSign 7 = .ok (.bipush 40, 2) := by decide +kernel
theorem dX12_isSign_9 : decode cX12_isSign 9 = .ok (.if_icmp .eq 57, 3) := by decide +kernel
theorem dX12_isSign_12 : decode cX12_isSign 12 = .ok (.iload_n 0, 1) := by decide +kernel
theorem dX12_isSign_13 : decode cX12_isSign 13 = .ok (.bipush 41, 2) := by decide +kernel
theorem dX12_isSign_15 : decode cX12_isSign 15 = .ok (.if_icmp .eq 51, 3) := by decide +kernel
theorem dX12_isSign_18 : decode cX12_isSign 18 = .ok (.iload_n 0, 1) := by decide +kernel
theorem dX12_isSign_19 : decode cX12_isSign 19 = .ok (.bipush 60, 2) := by decide +kernel
theorem dX12_isSign_21 : decode cX12_isSign 21 = .ok (.if_icmp .eq 45, 3) := by decide +kernel
theorem dX12_isSign_24 : decode cX12_isSign 24 = .ok (.iload_n 0, 1) := by decide +kernel
theorem dX12_isSign_25 : decode cX12_isSign 25 = .ok (.bipush 62, 2) := by decide +kernel
theorem dX12_isSign_27 : decode cX12_isSign 27 = .ok (.if_icmp .eq 39, 3) := by decide +kernel
theorem dX12_isSign_30 : decode cX12_isSign 30 = .ok (.iload_n 0, 1) := by decide +kernel
theorem dX12_isSign_31 : decode cX12_isSign 31 = .ok (.bipush 61, 2) := by decide +kernel
theorem dX12_isSign_33 : decode cX12_isSign 33 = .ok (.if_icmp .eq 33, 3) := by decide +kernel
theorem dX12_isSign_36 : decode cX12_isSign 36 = .ok (.iload_n 0, 1) := by decide +kernel
theorem dX12_isSign_37 : decode cX12_isSign 37 = .ok (.bipush 43, 2) := by decide +kernel
theorem dX12_isSign_39 : decode cX12_isSign 39 = .ok (.if_icmp .eq 27, 3) := by decide +kernel
theorem dX12_isSign_42 : decode cX12_isSign 42 = .ok (.iload_n 0, 1) := by decide +kernel
theorem dX12_isSign_43 : decode cX12_isSign 43 = .ok (.bipush 45, 2) := by decide +kernel
theorem dX12_isSign_45 : decode cX12_isSign 45 = .ok (.if_icmp .eq 21, 3) := by decide +kernel
theorem dX12_isSign_48 : decode cX12_isSign 48 = .ok (.iload_n 0, 1) := by decide +kernel
theorem dX12_isSign_49 : decode cX12_isSign 49 = .ok (.bipush 42, 2) := by decide +kernel
theorem dX12_isSign_51 : decode cX12_isSign 51 = .ok (.if_icmp .eq 15, 3) := by decide +kernel
theorem dX12_isSign_54 : decode cX12_isSign 54 = .ok (.iload_n 0, 1) := by decide +kernel
theorem dX12_isSign_55 : decode cX12_isSign 55 = .ok (.bipush 47, 2) := by decide +kernel
theorem dX12_isSign_57 : decode cX12_isSign 57 = .ok (.if_icmp .eq 9, 3) := by decide +kernel
theorem dX12_isSign_60 : decode cX12_isSign 60 = .ok (.iload_n 0, 1) := by decide +kernel
theorem dX12_isSign_61 : decode cX12_isSign 61 = .ok (.bipush 37, 2) := by decide +kernel
theorem dX12_isSign_63 : decode cX12_isSign 63 = .ok (.if_icmp .ne 7, 3) := by decide +kernel
theorem dX12_isSign_66 : decode cX12_isSign 66 = .ok (.iconst 1, 1) := by decide +kernel
theorem dX12_isSign_67 : decode cX12_isSign 67 = .ok (.goto 4, 3) := by decide +kernel
theorem dX12_isSign_70 : decode cX12_isSign 70 = .ok (.iconst 0, 1) := by decide +kernel
theorem dX12_isSign_71 : decode cX12_isSign 71 = .ok (.ireturn, 1) := by decide +kernel
theorem dX12_token_0 : decode cX12_token 0 = .ok (.aload_n 0, 1) := by decide +kernel
theorem dX12_token_1 : decode cX12_token 1 = .ok (.iconst 0, 1) := by decide +kernel
theorem dX12_token_2 : decode cX12_token 2 = .ok (.invokevirtual 158, 3) := by decide +kernel
theorem dX12_token_5 : decode cX12_token 5 = .ok (.bipush 32, 2) := by decide +kernel
theorem dX12_token_7 : decode cX12_token 7 = .ok (.if_icmp .eq 13, 3) := by decide +kernel
theorem dX12_token_10 : decode cX12_token 10 = .ok (.aload_n 0, 1) := by decide +kernel
theorem dX12_token_11 : decode cX12_token 11 = .ok (.iconst 0, 1) := by decide +kernel
theorem dX12_token_12 : decode cX12_token 12 = .ok (.invokevirtual 158, 3) := by decide +kernel
theorem dX12_token_15 : decode cX12_token 15 = .ok (.bipush 10, 2) := by decide +kernel
theorem dX12_token_17 : decode cX12_token 17 = .ok (.if_icmp .ne 16, 3) := by decide +kernel
theorem dX12_token_20 : decode cX12_token 20 = .ok (.aload_n 0, 1) := by decide +kernel
theorem dX12_token_21 : decode cX12_token 21 = .ok (.dup, 1) := by decide +kernel
theorem dX12_token_22 : decode cX12_token 22 = .ok (.getfield 152, 3) := by decide +kernel
theorem dX12_token_25 : decode cX12_token 25 = .ok (.iconst 1, 1) := by decide +kernel
theorem dX12_token_26 : decode cX12_token 26 = .ok (.iadd, 1) := by decide +kernel
theorem dX12_token_27 : decode cX12_token 27 = .ok (.putfield 152, 3) := by decide +kernel
theorem dX12_token_30 : decode cX12_token 30 = .ok (.goto (-30), 3) := by decide +kernel
theorem dX12_token_33 : decode cX12_token 33 = .ok (.aload_n 0, 1) := by decide +kernel
theorem dX12_token_34 : decode cX12_token 34 = .ok (.aload_n 0, 1) := by decide +kernel
theorem dX12_token_35 : decode cX12_token 35 = .ok (.getfield 152, 3) := by decide +kernel
theorem dX12_token_38 : decode cX12_token 38 = .ok (.putfield 162, 3) := by decide +kernel
theorem dX12_token_41 : decode cX12_token 41 = .ok (.aload_n 0, 1) := by decide +kernel
theorem dX12_token_42 : decode cX12_token 42 = .ok (.iconst 0, 1) := by decide +kernel
theorem dX12_token_43 : decode cX12_token 43 = .ok (.invokevirtual 158, 3) := by decide +kernel
theorem dX12_token_46 : decode cX12_token 46 = .ok (.istore_n 1, 1) := by decide +kernel
theorem dX12_token_47 : decode cX12_token 47 = .ok (.iconst 0, 1) := by decide +kernel
theorem dX12_token_48 : decode cX12_token 48 = .ok (.istore_n 2, 1) := by decide +kernel
theorem dX12_token_49 : decode cX12_token 49 = .ok (.aload_n 0, 1) := by decide +kernel
theorem dX12_token_50 : decode cX12_token 50 = .ok (.lconst 0, 1) := by decide +kernel
theorem dX12_token_51 : decode cX12_token 51 = .ok (.putfield 165, 3) := by decide +kernel
theorem dX12_token_54 : decode cX12_token 54 = .ok (.aload_n 0, 1) := by decide +kernel
theorem dX12_token_55 : decode cX12_token 55 = .ok (.iconst 0, 1) := by decide +kernel
theorem dX12_token_56 : decode cX12_token 56 = .ok (.putfield 169, 3) := by decide +kernel
theorem dX12_token_59 : decode cX12_token 59 = .ok (.iload_n 1, 1) := by decide +kernel
theorem dX12_token_60 : decode cX12_token 60 = .ok (.ifCond .ge 11, 3) := by decide +kernel
theorem dX12_token_63 : decode cX12_token 63 = .ok (.aload_n 0, 1) := by decide +kernel
theorem dX12_token_64 : decode cX12_token 64 = .ok (.iconst 0, 1) := by decide +kernel
theorem dX12_token_65 : decode cX12_token 65 = .ok (.putfield 172, 3) := by decide +kernel
theorem dX12_token_68 : decode cX12_token 68 = .ok (.goto 164, 3) := by decide +kernel
theorem dX12_token_71 : decode cX12_token 71 = .ok (.iload_n 1, 1) := by decide +kernel
theorem dX12_token_72 : decode cX12_token 72 = .ok (.invokestatic 175, 3) := by decide +kernel
theorem dX12_token_75 : decode cX12_token 75 = .ok (.ifCond .eq 62, 3) := by decide +kernel
theorem dX12_token_78 : decode cX12_token 78 = .ok (.aload_n 0, 1) := by decide +kernel
theorem dX12_token_79 : decode cX12_token 79 = .ok (.iload_n 2, 1) := by decide +kernel
theorem dX12_token_80 : decode cX12_token 80 = .ok (.invokevirtual 158, 3) := by decide +kernel
theorem dX12_token_83 : decode cX12_token 83 = .ok (.invokestatic 175, 3) := by decide +kernel
theorem dX12_token_86 : decode cX12_token 86 = .ok (.ifCond .eq 33, 3) := by decide +kernel
theorem dX12_token_89 : decode cX12_token 89 = .ok (.iload_n 2, 1) := by decide +kernel
theorem dX12_token_90 : decode cX12_token 90 = .ok (.bipush 8, 2) := by decide +kernel
theorem dX12_token_92 : decode cX12_token 92 = .ok (.if_icmp .ge 21, 3) := by decide +kernel
theorem dX12_token_95 : decode cX12_token 95 = .ok (.aload_n 0, 1) := by decide +kernel
theorem dX12_token_96 : decode cX12_token 96 = .ok (.aload_n 0, 1) := by decide +kernel
theorem dX12_token_97 : decode cX12_token 97 = .ok (.getfield 165, 3) := by decide +kernel
theorem dX12_token_100 : decode cX12_token 100 = .ok (.bipush 8, 2) := by decide +kernel
theorem dX12_token_102 : decode cX12_token 102 = .ok (.lshl, 1) := by decide +kernel
theorem dX12_token_103 : decode cX12_token 103 = .ok (.aload_n 0, 1) := by decide +kernel
theorem dX12_token_104 : decode cX12_token 104 = .ok (.iload_n 2, 1) := by decide +kernel
theorem dX12_token_105 : decode cX12_token 105 = .ok (.invokevirtual 158, 3) := by decide +kernel
theorem dX12_token_108 : decode cX12_token 108 = .ok (.i2l, 1) := by decide +kernel
theorem dX12_token_109 : decode cX12_token 109 = .ok (.lor, 1) := by decide +kernel
theorem dX12_token_110 : decode cX12_token 110 = .ok (.putfield 165, 3) := by decide +kernel
theorem dX12_token_113 : decode cX12_token 113 = .ok (.iinc 2 1, 3) := by decide +kernel
theorem dX12_token_116 : decode cX12_token 116 = .ok (.goto (-38), 3) := by decide +kernel
theorem dX12_token_119 : decode cX12_token 119 = .ok (.aload_n 0, 1) := by decide +kernel
theorem dX12_token_120 : decode cX12_token 120 = .ok (.iload_n 2, 1) := by decide +kernel
theorem dX12_token_121 : decode cX12_token 121 = .ok (.bipush 8, 2) := by decide +kernel
theorem dX12_token_123 : decode cX12_token 123 = .ok (.if_icmp .le 7, 3) := by decide +kernel
theorem dX12_token_126 : decode cX12_token 126 = .ok (.iconst 3, 1) := by decide +kernel
theorem dX12_token_127 : decode cX12_token 127 = .ok (.goto 4, 3) := by decide +kernel
theorem dX12_token_130 : decode cX12_token 130 = .ok (.iconst 1, 1) := by decide +kernel
theorem dX12_token_131 : decode cX12_token 131 = .ok (.putfield 172, 3) := by decide +kernel
theorem dX12_token_134 : decode cX12_token 134 = .ok (.goto 98, 3) := by decide +kernel
theorem dX12_token_137 : decode cX12_token 137 = .ok (.iload_n 1, 1) := by decide +kernel
theorem dX12_token_138 : decode cX12_token 138 = .ok (.invokestatic 179, 3) := by decide +kernel
theorem dX12_token_141 : decode cX12_token 141 = .ok (.ifCond .eq 73, 3) := by decide +kernel
theorem dX12_token_144 : decode cX12_token 144 = .ok (.aload_n 0, 1) := by decide +kernel
theorem dX12_token_145 : decode cX12_token 145 = .ok (.iload_n 2, 1) := by decide +kernel
theorem dX12_token_146 : decode cX12_token 146 = .ok (.invokevirtual 158, 3) := by decide +kernel
theorem dX12_token_149 : decode cX12_token 149 = .ok (.invokestatic 179, 3) := by decide +kernel
theorem dX12_token_152 : decode cX12_token 152 = .ok (.ifCond .eq 34, 3) := by decide +kernel
theorem dX12_token_155 : decode cX12_token 155 = .ok (.iload_n 2, 1) := by decide +kernel
theorem dX12_token_156 : decode cX12_token 156 = .ok (.iconst 4, 1) := by decide +kernel
theorem dX12_token_157 : decode cX12_token 157 = .ok (.if_icmp .ge 23, 3) := by decide +kernel
theorem dX12_token_160 : decode cX12_token 160 = .ok (.aload_n 0, 1) := by decide +kernel
theorem dX12_token_161 : decode cX12_token 161 = .ok (.bipush 10, 2) := by decide +kernel
theorem dX12_token_163 : decode cX12_token 163 = .ok (.aload_n 0, 1) := by decide +kernel
theorem dX12_token_164 : decode cX12_token 164 = .ok (.getfield 169, 3) := by decide +kernel
theorem dX12_token_167 : decode cX12_token 167 = .ok (.imul, 1) := by decide +kernel
theorem dX12_token_168 : decode cX12_token 168 = .ok (.aload_n 0, 1) := by decide +kernel
theorem dX12_token_169 : decode cX12_token 169 = .ok (.iload_n 2, 1) := by decide +kernel
theorem dX12_token_170 : decode cX12_token 170 = .ok (.invokevirtual 158, 3) := by decide +kernel
theorem dX12_token_173 : decode cX12_token 173 = .ok (.iadd, 1) := by decide +kernel
theorem dX12_token_174 : decode cX12_token 174 = .ok (.bipush 48, 2) := by decide +kernel
theorem dX12_token_176 : decode cX12_token 176 = .ok (.isub, 1) := by decide +kernel
theorem dX12_token_177 : decode cX12_token 177 = .ok (.putfield 169, 3) := by decide +kernel
theorem dX12_token_180 : decode cX12_token 180 = .ok (.iinc 2 1, 3) := by decide +kernel
theorem dX12_token_183 : decode cX12_token 183 = .ok (.goto (-39), 3) := by decide +kernel
theorem dX12_token_186 : decode cX12_token 186 = .ok (.aload_n 0, 1) := by decide +kernel
theorem dX12_token_187 : decode cX12_token 187 = .ok (.iload_n 2, 1) := by decide +kernel
theorem dX12_token_188 : decode cX12_token 188 = .ok (.iconst 4, 1) := by decide +kernel
theorem dX12_token_189 : decode cX12_token 189 = .ok (.if_icmp .gt 14, 3) := by decide +kernel
theorem dX12_token_192 : decode cX12_token 192 = .ok (.aload_n 0, 1) := by decide +kernel
theorem dX12_token_193 : decode cX12_token 193 = .ok (.iload_n 2, 1) := by decide +kernel
theorem dX12_token_194 : decode cX12_token 194 = .ok (.invokevirtual 158, 3) := by decide +kernel
theorem dX12_token_197 : decode cX12_token 197 = .ok (.invokestatic 175, 3) := by decide +kernel
theorem dX12_token_200 : decode cX12_token 200 = .ok (.ifCond .eq 7, 3) := by decide +kernel
theorem dX12_token_203 : decode cX12_token 203 = .ok (.iconst 3, 1) := by decide +kernel
theorem dX12_token_204 : decode cX12_token 204 = .ok (.goto 4, 3) := by decide +kernel
theorem dX12_token_207 : decode cX12_token 207 = .ok (.iconst 2, 1) := by decide +kernel
theorem dX12_token_208 : decode cX12_token 208 = .ok (.putfield 172, 3) := by decide +kernel
theorem dX12_token_211 : decode cX12_token 211 = .ok (.goto 21, 3) := by decide +kernel
theorem dX12_token_214 : decode cX12_token 214 = .ok (.iconst 1, 1) := by decide +kernel
theorem dX12_token_215 : decode cX12_token 215 = .ok (.istore_n 2, 1) := by decide +kernel
theorem dX12_token_216 : decode cX12_token 216 = .ok (.aload_n 0, 1) := by decide +kernel
theorem dX12_token_217 : decode cX12_token 217 = .ok (.iload_n 1, 1) := by decide +kernel
theorem dX12_token_218 : decode cX12_token 218 = .ok (.invokestatic 182, 3) := by decide +kernel
theorem dX12_token_221 : decode cX12_token 221 = .ok (.ifCond .eq 7, 3) := by decide +kernel
theorem dX12_token_224 : decode cX12_token 224 = .ok (.iload_n 1, 1) := by decide +kernel
theorem dX12_token_225 : decode cX12_token 225 = .ok (.goto 4, 3) := by decide +kernel
theorem dX12_token_228 : decode cX12_token 228 = .ok (.iconst 3, 1) := by decide +kernel
theorem dX12_token_229 : decode cX12_token 229 = .ok (.putfield 172, 3) := by decide +kernel
theorem dX12_token_232 : decode cX12_token 232 = .ok (.aload_n 0, 1) := by decide +kernel
theorem dX12_token_233 : decode cX12_token 233 = .ok (.getfield 172, 3) := by decide +kernel
theorem dX12_token_236 : decode cX12_token 236 = .ok (.iconst 3, 1) := by decide +kernel
theorem dX12_token_237 : decode cX12_token 237 = .ok (.if_icmp .eq 13, 3) := by decide +kernel
theorem dX12_token_240 : decode cX12_token 240 = .ok (.aload_n 0, 1) := by decide +kernel
theorem dX12_token_241 : decode cX12_token 241 = .ok (.dup, 1) := by decide +kernel
theorem dX12_token_242 : decode cX12_token 242 = .ok (.getfield 152, 3) := by decide +kernel
theorem dX12_token_245 : decode cX12_token 245 = .ok (.iload_n 2, 1) := by decide +kernel
theorem dX12_token_246 : decode cX12_token 246 = .ok (.iadd, 1) := by decide +kernel
theorem dX12_token_247 : decode cX12_token 247 = .ok (.putfield 152, 3) := by decide +kernel
theorem dX12_token_250 : decode cX12_token 250 = .ok (.return_, 1) := by decide +kernel
theorem dX12_wrong_0 : decode cX12_wrong 0 = .ok (.aload_n 0, 1) := by decide +kernel
theorem dX12_wrong_1 : decode cX12_wrong 1 = .ok (.getfield 185, 3) := by decide +kernel
theorem dX12_wrong_4 : decode cX12_wrong 4 = .ok (.ifCond .le 4, 3) := by decide +kernel
theorem dX12_wrong_7 : decode cX12_wrong 7 = .ok (.return_, 1) := by decide +kernel
theorem dX12_wrong_8 : decode cX12_wrong 8 = .ok (.aload_n 0, 1) := by decide +kernel
theorem dX12_wrong_9 : decode cX12_wrong 9 = .ok (.aload_n 0, 1) := by decide +kernel
theorem dX12_wrong_10 : decode cX12_wrong 10 = .ok (.getfield 172, 3) := by decide +kernel
theorem dX12_wrong_13 : decode cX12_wrong 13 = .ok (.iconst 3, 1) := by decide +kernel
theorem dX12_wrong_14 : decode cX12_wrong 14 = .ok (.if_icmp .ne 7, 3) := by decide +kernel
theorem dX12_wrong_17 : decode cX12_wrong 17 = .ok (.iconst 1, 1) := by decide +kernel
theorem dX12_wrong_18 : decode cX12_wrong 18 = .ok (.goto 4, 3) := by decide +kernel
theorem dX12_wrong_21 : decode cX12_wrong 21 = .ok (.iload_n 1, 1) := by decide +kernel
theorem dX12_wrong_22 : decode cX12_wrong 22 = .ok (.putfield 185, 3) := by decide +kernel
theorem dX12_wrong_25 : decode cX12_wrong 25 = .ok (.aload_n 0, 1) := by decide +kernel
theorem dX12_wrong_26 : decode cX12_wrong 26 = .ok (.aload_n 0, 1) := by decide +kernel
theorem dX12_wrong_27 : decode cX12_wrong 27 = .ok (.getfield 162, 3) := by decide +kernel
theorem dX12_wrong_30 : decode cX12_wrong 30 = .ok (.putfield 13, 3) := by decide +kernel
theorem dX12_wrong_33 : decode cX12_wrong 33 = .ok (.return_, 1) := by decide +kernel
theorem dX12_isWord_0 : decode cX12_isWord 0 = .ok (.aload_n 0, 1) := by decide +kernel
theorem dX12_isWord_1 : decode cX12_isWord 1 = .ok (.getfield 172, 3) := by decide +kernel
theorem dX12_isWord_4 : decode cX12_isWord 4 = .ok (.iconst 1, 1) := by decide +kernel
theorem dX12_isWord_5 : decode cX12_isWord 5 = .ok (.if_icmp .ne 16, 3) := by decide +kernel
theorem dX12_isWord_8 : decode cX12_isWord 8 = .ok (.aload_n 0, 1) := by decide +kernel
theorem dX12_isWord_9 : decode cX12_isWord 9 = .ok (.getfield 165, 3) := by decide +kernel
theorem dX12_isWord_12 : decode cX12_isWord 12 = .ok (.lload_n 1, 1) := by decide +kernel
theorem dX12_isWord_13 : decode cX12_isWord 13 = .ok (.lcmp, 1) := by decide +kernel
theorem dX12_isWord_14 : decode cX12_isWord 14 = .ok (.ifCond .ne 7, 3) := by decide +kernel
theorem dX12_isWord_17 : decode cX12_isWord 17 = .ok (.iconst 1, 1) := by decide +kernel
theorem dX12_isWord_18 : decode cX12_isWord 18 = .ok (.goto 4, 3) := by decide +kernel
theorem dX12_isWord_21 : decode cX12_isWord 21 = .ok (.iconst 0, 1) := by decide +kernel
theorem dX12_isWord_22 : decode cX12_isWord 22 = .ok (.ireturn, 1) := by decide +kernel
theorem dX12_isOwn_0 : decode cX12_isOwn 0 = .ok (.aload_n 0, 1) := by decide +kernel
theorem dX12_isOwn_1 : decode cX12_isOwn 1 = .ok (.getfield 165, 3) := by decide +kernel
theorem dX12_isOwn_4 : decode cX12_isOwn 4 = .ok (.ldc2_w 188, 3) := by decide +kernel
theorem dX12_isOwn_7 : decode cX12_isOwn 7 = .ok (.lcmp, 1) := by decide +kernel
theorem dX12_isOwn_8 : decode cX12_isOwn 8 = .ok (.ifCond .eq 201, 3) := by decide +kernel
theorem dX12_isOwn_11 : decode cX12_isOwn 11 = .ok (.aload_n 0, 1) := by decide +kernel
theorem dX12_isOwn_12 : decode cX12_isOwn 12 = .ok (.getfield 165, 3) := by decide +kernel
theorem dX12_isOwn_15 : decode cX12_isOwn 15 = .ok (.ldc2_w 190, 3) := by decide +kernel
theorem dX12_isOwn_18 : decode cX12_isOwn 18 = .ok (.lcmp, 1) := by decide +kernel
theorem dX12_isOwn_19 : decode cX12_isOwn 19 = .ok (.ifCond .eq 190, 3) := by decide +kernel
theorem dX12_isOwn_22 : decode cX12_isOwn 22 = .ok (.aload_n 0, 1) := by decide +kernel
theorem dX12_isOwn_23 : decode cX12_isOwn 23 = .ok (.getfield 165, 3) := by decide +kernel
theorem dX12_isOwn_26 : decode cX12_isOwn 26 = .ok (.ldc2_w 192, 3) := by decide +kernel
theorem dX12_isOwn_29 : decode cX12_isOwn 29 = .ok (.lcmp, 1) := by decide +kernel
theorem dX12_isOwn_30 : decode cX12_isOwn 30 = .ok (.ifCond .eq 179, 3) := by decide +kernel
theorem dX12_isOwn_33 : decode cX12_isOwn 33 = .ok (.aload_n 0, 1) := by decide +kernel
theorem dX12_isOwn_34 : decode cX12_isOwn 34 = .ok (.getfield 165, 3) := by decide +kernel
theorem dX12_isOwn_37 : decode cX12_isOwn 37 = .ok (.ldc2_w 194, 3) := by decide +kernel
theorem dX12_isOwn_40 : decode cX12_isOwn 40 = .ok (.lcmp, 1) := by decide +kernel
theorem dX12_isOwn_41 : decode cX12_isOwn 41 = .ok (.ifCond .eq 168, 3) := by decide +kernel
theorem dX12_isOwn_44 : decode cX12_isOwn 44 = .ok (.aload_n 0, 1) := by decide +kernel
theorem dX12_isOwn_45 : decode cX12_isOwn 45 = .ok (.getfield 165, 3) := by decide +kernel
theorem dX12_isOwn_48 : decode cX12_isOwn 48 = .ok (.ldc2_w 196, 3) := by decide +kernel
theorem dX12_isOwn_51 : decode cX12_isOwn 51 = .ok (.lcmp, 1) := by decide +kernel
theorem dX12_isOwn_52 : decode cX12_isOwn 52 = .ok (.ifCond .eq 157, 3) := by decide +kernel
theorem dX12_isOwn_55 : decode cX12_isOwn 55 = .ok (.aload_n 0, 1) := by decide +kernel
theorem dX12_isOwn_56 : decode cX12_isOwn 56 = .ok (.getfield 165, 3) := by decide +kernel
theorem dX12_isOwn_59 : decode cX12_isOwn 59 = .ok (.ldc2_w 198, 3) := by decide +kernel
theorem dX12_isOwn_62 : decode cX12_isOwn 62 = .ok (.lcmp, 1) := by decide +kernel
theorem dX12_isOwn_63 : decode cX12_isOwn 63 = .ok (.ifCond .eq 146, 3) := by decide +kernel
theorem dX12_isOwn_66 : decode cX12_isOwn 66 = .ok (.aload_n 0, 1) := by decide +kernel
theorem dX12_isOwn_67 : decode cX12_isOwn 67 = .ok (.getfield 165, 3) := by decide +kernel
theorem dX12_isOwn_70 : decode cX12_isOwn 70 = .ok (.ldc2_w 200, 3) := by decide +kernel
theorem dX12_isOwn_73 : decode cX12_isOwn 73 = .ok (.lcmp, 1) := by decide +kernel
theorem dX12_isOwn_74 : decode cX12_isOwn 74 = .ok (.ifCond .eq 135, 3) := by decide +kernel
theorem dX12_isOwn_77 : decode cX12_isOwn 77 = .ok (.aload_n 0, 1) := by decide +kernel
theorem dX12_isOwn_78 : decode cX12_isOwn 78 = .ok (.getfield 165, 3) := by decide +kernel
theorem dX12_isOwn_81 : decode cX12_isOwn 81 = .ok (.ldc2_w 202, 3) := by decide +kernel
theorem dX12_isOwn_84 : decode cX12_isOwn 84 = .ok (.lcmp, 1) := by decide +kernel
theorem dX12_isOwn_85 : decode cX12_isOwn 85 = .ok (.ifCond .eq 124, 3) := by decide +kernel
theorem dX12_isOwn_88 : decode cX12_isOwn 88 = .ok (.aload_n 0, 1) := by decide +kernel
theorem dX12_isOwn_89 : decode cX12_isOwn 89 = .ok (.getfield 165, 3) := by decide +kernel
theorem dX12_isOwn_92 : decode cX12_isOwn 92 = .ok (.ldc2_w 204, 3) := by decide +kernel
theorem dX12_isOwn_95 : decode cX12_isOwn 95 = .ok (.lcmp, 1) := by decide +kernel
theorem dX12_isOwn_96 : decode cX12_isOwn 96 = .ok (.ifCond .eq 113, 3) := by decide +kernel
theorem dX12_isOwn_99 : decode cX12_isOwn 99 = .ok (.aload_n 0, 1) := by decide +kernel
theorem dX12_isOwn_100 : decode cX12_isOwn 100 = .ok (.getfield 165, 3) := by decide +kernel
theorem dX12_isOwn_103 : decode cX12_isOwn 103 = .ok (.ldc2_w 206, 3) := by decide +kernel
theorem dX12_isOwn_106 : decode cX12_isOwn 106 = .ok (.lcmp, 1) := by decide +kernel
theorem dX12_isOwn_107 : decode cX12_isOwn 107 = .ok (.ifCond .eq 102, 3) := by decide +kernel
theorem dX12_isOwn_110 : decode cX12_isOwn 110 = .ok (.aload_n 0, 1) := by decide +kernel
theorem dX12_isOwn_111 : decode cX12_isOwn 111 = .ok (.getfield 165, 3) := by decide +kernel
theorem dX12_isOwn_114 : decode cX12_isOwn 114 = .ok (.ldc2_w 208, 3) := by decide +kernel
theorem dX12_isOwn_117 : decode cX12_isOwn 117 = .ok (.lcmp, 1) := by decide +kernel
theorem dX12_isOwn_118 : decode cX12_isOwn 118 = .ok (.ifCond .eq 91, 3) := by decide +kernel
theorem dX12_isOwn_121 : decode cX12_isOwn 121 = .ok (.aload_n 0, 1) := by decide +kernel
theorem dX12_isOwn_122 : decode cX12_isOwn 122 = .ok (.getfield 165, 3) := by decide +kernel
theorem dX12_isOwn_125 : decode cX12_isOwn 125 = .ok (.ldc2_w 210, 3) := by decide +kernel
theorem dX12_isOwn_128 : decode cX12_isOwn 128 = .ok (.lcmp, 1) := by decide +kernel
theorem dX12_isOwn_129 : decode cX12_isOwn 129 = .ok (.ifCond .eq 80, 3) := by decide +kernel
theorem dX12_isOwn_132 : decode cX12_isOwn 132 = .ok (.aload_n 0, 1) := by decide +kernel
theorem dX12_isOwn_133 : decode cX12_isOwn 133 = .ok (.getfield 165, 3) := by decide +kernel
theorem dX12_isOwn_136 : decode cX12_isOwn 136 = .ok (.ldc2_w 212, 3) := by decide +kernel
theorem dX12_isOwn_139 : decode cX12_isOwn 139 = .ok (.lcmp, 1) := by decide +kernel
theorem dX12_isOwn_140 : decode cX12_isOwn 140 = .ok (.ifCond .eq 69, 3) := by decide +kernel
theorem dX12_isOwn_143 : decode cX12_isOwn 143 = .ok (.aload_n 0, 1) := by decide +kernel
theorem dX12_isOwn_144 : decode cX12_isOwn 144 = .ok (.getfield 165, 3) := by decide +kernel
theorem dX12_isOwn_147 : decode cX12_isOwn 147 = .ok (.ldc2_w 214, 3) := by decide +kernel
theorem dX12_isOwn_150 : decode cX12_isOwn 150 = .ok (.lcmp, 1) := by decide +kernel
theorem dX12_isOwn_151 : decode cX12_isOwn 151 = .ok (.ifCond .eq 58, 3) := by decide +kernel
theorem dX12_isOwn_154 : decode cX12_isOwn 154 = .ok (.aload_n 0, 1) := by decide +kernel
theorem dX12_isOwn_155 : decode cX12_isOwn 155 = .ok (.getfield 165, 3) := by decide +kernel
theorem dX12_isOwn_158 : decode cX12_isOwn 158 = .ok (.ldc2_w 216, 3) := by decide +kernel
theorem dX12_isOwn_161 : decode cX12_isOwn 161 = .ok (.lcmp, 1) := by decide +kernel
theorem dX12_isOwn_162 : decode cX12_isOwn 162 = .ok (.ifCond .eq 47, 3) := by decide +kernel
theorem dX12_isOwn_165 : decode cX12_isOwn 165 = .ok (.aload_n 0, 1) := by decide +kernel
theorem dX12_isOwn_166 : decode cX12_isOwn 166 = .ok (.getfield 165, 3) := by decide +kernel
theorem dX12_isOwn_169 : decode cX12_isOwn 169 = .ok (.ldc2_w 218, 3) := by decide +kernel
theorem dX12_isOwn_172 : decode cX12_isOwn 172 = .ok (.lcmp, 1) := by decide +kernel
theorem dX12_isOwn_173 : decode cX12_isOwn 173 = .ok (.ifCond .eq 36, 3) := by decide +kernel
theorem dX12_isOwn_176 : decode cX12_isOwn 176 = .ok (.aload_n 0, 1) := by decide +kernel
theorem dX12_isOwn_177 : decode cX12_isOwn 177 = .ok (.getfield 165, 3) := by decide +kernel
theorem dX12_isOwn_180 : decode cX12_isOwn 180 = .ok (.ldc2_w 220, 3) := by decide +kernel
theorem dX12_isOwn_183 : decode cX12_isOwn 183 = .ok (.lcmp, 1) := by decide +kernel
theorem dX12_isOwn_184 : decode cX12_isOwn 184 = .ok (.ifCond .eq 25, 3) := by decide +kernel
theorem dX12_isOwn_187 : decode cX12_isOwn 187 = .ok (.aload_n 0, 1) := by decide +kernel
theorem dX12_isOwn_188 : decode cX12_isOwn 188 = .ok (.getfield 165, 3) := by decide +kernel
theorem dX12_isOwn_191 : decode cX12_isOwn 191 = .ok (.ldc2_w 222, 3) := by decide +kernel
theorem dX12_isOwn_194 : decode cX12_isOwn 194 = .ok (.lcmp, 1) := by decide +kernel
theorem dX12_isOwn_195 : decode cX12_isOwn 195 = .ok (.ifCond .eq 14, 3) := by decide +kernel
theorem dX12_isOwn_198 : decode cX12_isOwn 198 = .ok (.aload_n 0, 1) := by decide +kernel
theorem dX12_isOwn_199 : decode cX12_isOwn 199 = .ok (.getfield 165, 3) := by decide +kernel
theorem dX12_isOwn_202 : decode cX12_isOwn 202 = .ok (.ldc2_w 224, 3) := by decide +kernel
theorem dX12_isOwn_205 : decode cX12_isOwn 205 = .ok (.lcmp, 1) := by decide +kernel
theorem dX12_isOwn_206 : decode cX12_isOwn 206 = .ok (.ifCond .ne 7, 3) := by decide +kernel
theorem dX12_isOwn_209 : decode cX12_isOwn 209 = .ok (.iconst 1, 1) := by decide +kernel
theorem dX12_isOwn_210 : decode cX12_isOwn 210 = .ok (.goto 4, 3) := by decide +kernel
theorem dX12_isOwn_213 : decode cX12_isOwn 213 = .ok (.iconst 0, 1) := by decide +kernel
theorem dX12_isOwn_214 : decode cX12_isOwn 214 = .ok (.ireturn, 1) := by decide +kernel
theorem dX12_isName_0 : decode cX12_isName 0 = .ok (.aload_n 0, 1) := by decide +kernel
theorem dX12_isName_1 : decode cX12_isName 1 = .ok (.getfield 172, 3) := by decide +kernel
theorem dX12_isName_4 : decode cX12_isName 4 = .ok (.iconst 1, 1) := by decide +kernel
theorem dX12_isName_5 : decode cX12_isName 5 = .ok (.if_icmp .ne 14, 3) := by decide +kernel
theorem dX12_isName_8 : decode cX12_isName 8 = .ok (.aload_n 0, 1) := by decide +kernel
theorem dX12_isName_9 : decode cX12_isName 9 = .ok (.invokevirtual 226, 3) := by decide +kernel
theorem dX12_isName_12 : decode cX12_isName 12 = .ok (.ifCond .ne 7, 3) := by decide +kernel
theorem dX12_isName_15 : decode cX12_isName 15 = .ok (.iconst 1, 1) := by decide +kernel
theorem dX12_isName_16 : decode cX12_isName 16 = .ok (.goto 4, 3) := by decide +kernel
theorem dX12_isName_19 : decode cX12_isName 19 = .ok (.iconst 0, 1) := by decide +kernel
theorem dX12_isName_20 : decode cX12_isName 20 = .ok (.ireturn, 1) := by decide +kernel
theorem dX12_want_0 : decode cX12_want 0 = .ok (.aload_n 0, 1) := by decide +kernel
theorem dX12_want_1 : decode cX12_want 1 = .ok (.getfield 185, 3) := by decide +kernel
theorem dX12_want_4 : decode cX12_want 4 = .ok (.ifCond .le 4, 3) := by decide +kernel
theorem dX12_want_7 : decode cX12_want 7 = .ok (.return_, 1) := by decide +kernel
theorem dX12_want_8 : decode cX12_want 8 = .ok (.aload_n 0, 1) := by decide +kernel
theorem dX12_want_9 : decode cX12_want 9 = .ok (.lload_n 1, 1) := by decide +kernel
theorem dX12_want_10 : decode cX12_want 10 = .ok (.invokevirtual 230, 3) := by decide +kernel
theorem dX12_want_13 : decode cX12_want 13 = .ok (.ifCond .ne 11, 3) := by decide +kernel
theorem dX12_want_16 : decode cX12_want 16 = .ok (.aload_n 0, 1) := by decide +kernel
theorem dX12_want_17 : decode cX12_want 17 = .ok (.iconst 2, 1) := by decide +kernel
theorem dX12_want_18 : decode cX12_want 18 = .ok (.invokevirtual 234, 3) := by decide +kernel
theorem dX12_want_21 : decode cX12_want 21 = .ok (.goto 7, 3) := by decide +kernel
theorem dX12_want_24 : decode cX12_want 24 = .ok (.aload_n 0, 1) := by decide +kernel
theorem dX12_want_25 : decode cX12_want 25 = .ok (.invokevirtual 237, 3) := by decide +kernel
theorem dX12_want_28 : decode cX12_want 28 = .ok (.return_, 1) := by decide +kernel
theorem dX12_toldNumber_0 : decode cX12_toldNumber 0 = .ok (.aload_n 0, 1) := by decide +kernel
theorem dX12_toldNumber_1 : decode cX12_toldNumber 1 = .ok (.getfield 185, 3) := by decide +kernel
theorem dX12_toldNumber_4 : decode cX12_toldNumber 4 = .ok (.ifCond .le 5, 3) := by decide +kernel
theorem dX12_toldNumber_7 : decode cX12_toldNumber 7 = .ok (.iconst 0, 1) := by decide +kernel
theorem dX12_toldNumber_8 : decode cX12_toldNumber 8 = .ok (.ireturn, 1) := by decide +kernel
theorem dX12_toldNumber_9 : decode cX12_toldNumber 9 = .ok (.aload_n 0, 1) := by decide +kernel
theorem dX12_toldNumber_10 : decode cX12_toldNumber 10 = .ok (.getfield 172, 3) := by decide +kernel
theorem dX12_toldNumber_13 : decode cX12_toldNumber 13 = .ok (.iconst 2, 1) := by decide +kernel
theorem dX12_toldNumber_14 : decode cX12_toldNumber 14 = .ok (.if_icmp .eq 11, 3) := by decide +kernel
theorem dX12_toldNumber_17 : decode cX12_toldNumber 17 = .ok (.aload_n 0, 1) := by decide +kernel
theorem dX12_toldNumber_18 : decode cX12_toldNumber 18 = .ok (.iconst 2, 1) := by decide +kernel
theorem dX12_toldNumber_19 : decode cX12_toldNumber 19 = .ok (.invokevirtual 234, 3) := by decide +kernel
theorem dX12_toldNumber_22 : decode cX12_toldNumber 22 = .ok (.goto 24, 3) := by decide +kernel
theorem dX12_toldNumber_25 : decode cX12_toldNumber 25 = .ok (.aload_n 0, 1) := by decide +kernel
theorem dX12_toldNumber_26 : decode cX12_toldNumber 26 = .ok (.getfield 169, 3) := by decide +kernel
theorem dX12_toldNumber_29 : decode cX12_toldNumber 29 = .ok (.iload_n 1, 1) := by decide +kernel
theorem dX12_toldNumber_30 : decode cX12_toldNumber 30 = .ok (.if_icmp .lt 11, 3) := by decide +kernel
theorem dX12_toldNumber_33 : decode cX12_toldNumber 33 = .ok (.aload_n 0, 1) := by decide +kernel
theorem dX12_toldNumber_34 : decode cX12_toldNumber 34 = .ok (.getfield 169, 3) := by decide +kernel
theorem dX12_toldNumber_37 : decode cX12_toldNumber 37 = .ok (.iload_n 2, 1) := by decide +kernel
theorem dX12_toldNumber_38 : decode cX12_toldNumber 38 = .ok (.if_icmp .le 8, 3) := by decide +kernel
theorem dX12_toldNumber_41 : decode cX12_toldNumber 41 = .ok (.aload_n 0, 1) := by decide +kernel
theorem dX12_toldNumber_42 : decode cX12_toldNumber 42 = .ok (.iconst 4, 1) := by decide +kernel
theorem dX12_toldNumber_43 : decode cX12_toldNumber 43 = .ok (.invokevirtual 234, 3) := by decide +kernel
theorem dX12_toldNumber_46 : decode cX12_toldNumber 46 = .ok (.aload_n 0, 1) := by decide +kernel
theorem dX12_toldNumber_47 : decode cX12_toldNumber 47 = .ok (.getfield 169, 3) := by decide +kernel
theorem dX12_toldNumber_50 : decode cX12_toldNumber 50 = .ok (.istore_n 3, 1) := by decide +kernel
theorem dX12_toldNumber_51 : decode cX12_toldNumber 51 = .ok (.aload_n 0, 1) := by decide +kernel
theorem dX12_toldNumber_52 : decode cX12_toldNumber 52 = .ok (.getfield 185, 3) := by decide +kernel
theorem dX12_toldNumber_55 : decode cX12_toldNumber 55 = .ok (.ifCond .ne 7, 3) := by decide +kernel
theorem dX12_toldNumber_58 : decode cX12_toldNumber 58 = .ok (.aload_n 0, 1) := by decide +kernel
theorem dX12_toldNumber_59 : decode cX12_toldNumber 59 = .ok (.invokevirtual 237, 3) := by decide +kernel
theorem dX12_toldNumber_62 : decode cX12_toldNumber 62 = .ok (.iload_n 3, 1) := by decide +kernel
theorem dX12_toldNumber_63 : decode cX12_toldNumber 63 = .ok (.ireturn, 1) := by decide +kernel
theorem dX12_told_0 : decode cX12_told 0 = .ok (.aload_n 0, 1) := by decide +kernel
theorem dX12_told_1 : decode cX12_told 1 = .ok (.lload_n 1, 1) := by decide +kernel
theorem dX12_told_2 : decode cX12_told 2 = .ok (.invokevirtual 240, 3) := by decide +kernel
theorem dX12_told_5 : decode cX12_told 5 = .ok (.aload_n 0, 1) := by decide +kernel
theorem dX12_told_6 : decode cX12_told 6 = .ok (.iload_n 3, 1) := by decide +kernel
theorem dX12_told_7 : decode cX12_told 7 = .ok (.iload 4, 2) := by decide +kernel
theorem dX12_told_9 : decode cX12_told 9 = .ok (.invokevirtual 244, 3) := by decide +kernel
theorem dX12_told_12 : decode cX12_told 12 = .ok (.ireturn, 1) := by decide +kernel
theorem dX12_option_0 : decode cX12_option 0 = .ok (.aload_n 0, 1) := by decide +kernel
theorem dX12_option_1 : decode cX12_option 1 = .ok (.getfield 185, 3) := by decide +kernel
theorem dX12_option_4 : decode cX12_option 4 = .ok (.ifCond .ne 22, 3) := by decide +kernel
theorem dX12_option_7 : decode cX12_option 7 = .ok (.aload_n 0, 1) := by decide +kernel
theorem dX12_option_8 : decode cX12_option 8 = .ok (.lload_n 1, 1) := by decide +kernel
theorem dX12_option_9 : decode cX12_option 9 = .ok (.invokevirtual 230, 3) := by decide +kernel
theorem dX12_option_12 : decode cX12_option 12 = .ok (.ifCond .eq 14, 3) := by decide +kernel
theorem dX12_option_15 : decode cX12_option 15 = .ok (.aload_n 0, 1) := by decide +kernel
theorem dX12_option_16 : decode cX12_option 16 = .ok (.lload_n 1, 1) := by decide +kernel
theorem dX12_option_17 : decode cX12_option 17 = .ok (.iload_n 3, 1) := by decide +kernel
theorem dX12_option_18 : decode cX12_option 18 = .ok (.iload 4, 2) := by decide +kernel
theorem dX12_option_20 : decode cX12_option 20 = .ok (.invokevirtual 248, 3) := by decide +kernel
theorem dX12_option_23 : decode cX12_option 23 = .ok (.goto 5, 3) := by decide +kernel
theorem dX12_option_26 : decode cX12_option 26 = .ok (.iload 5, 2) := by decide +kernel
theorem dX12_option_28 : decode cX12_option 28 = .ok (.ireturn, 1) := by decide +kernel
theorem dX12_find_0 : decode cX12_find 0 = .ok (.iconst (-1), 1) := by decide +kernel
theorem dX12_find_1 : decode cX12_find 1 = .ok (.istore_n 3, 1) := by decide +kernel
theorem dX12_find_2 : decode cX12_find 2 = .ok (.iconst 0, 1) := by decide +kernel
theorem dX12_find_3 : decode cX12_find 3 = .ok (.istore 4, 2) := by decide +kernel
theorem dX12_find_5 : decode cX12_find 5 = .ok (.iload 4, 2) := by decide +kernel
theorem dX12_find_7 : decode cX12_find 7 = .ok (.iload_n 2, 1) := by decide +kernel
theorem dX12_find_8 : decode cX12_find 8 = .ok (.if_icmp .ge 33, 3) := by decide +kernel
theorem dX12_find_11 : decode cX12_find 11 = .ok (.aload_n 0, 1) := by decide +kernel
theorem dX12_find_12 : decode cX12_find 12 = .ok (.getfield 17, 3) := by decide +kernel
theorem dX12_find_15 : decode cX12_find 15 = .ok (.iload_n 1, 1) := by decide +kernel
theorem dX12_find_16 : decode cX12_find 16 = .ok (.iload 4, 2) := by decide +kernel
theorem dX12_find_18 : decode cX12_find 18 = .ok (.iadd, 1) := by decide +kernel
theorem dX12_find_19 : decode cX12_find 19 = .ok (.laload, 1) := by decide +kernel
theorem dX12_find_20 : decode cX12_find 20 = .ok (.aload_n 0, 1) := by decide +kernel
theorem dX12_find_21 : decode cX12_find 21 = .ok (.getfield 165, 3) := by decide +kernel
theorem dX12_find_24 : decode cX12_find 24 = .ok (.lcmp, 1) := by decide +kernel
theorem dX12_find_25 : decode cX12_find 25 = .ok (.ifCond .ne 8, 3) := by decide +kernel
theorem dX12_find_28 : decode cX12_find 28 = .ok (.iload 4, 2) := by decide +kernel
theorem dX12_find_30 : decode cX12_find 30 = .ok (.goto 4, 3) := by decide +kernel
theorem dX12_find_33 : decode cX12_find 33 = .ok (.iload_n 3, 1) := by decide +kernel
theorem dX12_find_34 : decode cX12_find 34 = .ok (.istore_n 3, 1) := by decide +kernel
theorem dX12_find_35 : decode cX12_find 35 = .ok (.iinc 4 1, 3) := by decide +kernel
theorem dX12_find_38 : decode cX12_find 38 = .ok (.goto (-33), 3) := by decide +kernel
theorem dX12_find_41 : decode cX12_find 41 = .ok (.iload_n 3, 1) := by decide +kernel
theorem dX12_find_42 : decode cX12_find 42 = .ok (.ireturn, 1) := by decide +kernel
theorem dX12_newName_0 : decode cX12_newName 0 = .ok (.aload_n 0, 1) := by decide +kernel
theorem dX12_newName_1 : decode cX12_newName 1 = .ok (.invokevirtual 237, 3) := by decide +kernel
theorem dX12_newName_4 : decode cX12_newName 4 = .ok (.aload_n 0, 1) := by decide +kernel
theorem dX12_newName_5 : decode cX12_newName 5 = .ok (.invokevirtual 252, 3) := by decide +kernel
theorem dX12_newName_8 : decode cX12_newName 8 = .ok (.ifCond .ne 11, 3) := by decide +kernel
theorem dX12_newName_11 : decode cX12_newName 11 = .ok (.aload_n 0, 1) := by decide +kernel
theorem dX12_newName_12 : decode cX12_newName 12 = .ok (.iconst 2, 1) := by decide +kernel
theorem dX12_newName_13 : decode cX12_newName 13 = .ok (.invokevirtual 234, 3) := by decide +kernel
theorem dX12_newName_16 : decode cX12_newName 16 = .ok (.goto 17, 3) := by decide +kernel
theorem dX12_newName_19 : decode cX12_newName 19 = .ok (.aload_n 0, 1) := by decide +kernel
theorem dX12_newName_20 : decode cX12_newName 20 = .ok (.iload_n 1, 1) := by decide +kernel
theorem dX12_newName_21 : decode cX12_newName 21 = .ok (.iload_n 2, 1) := by decide +kernel
theorem dX12_newName_22 : decode cX12_newName 22 = .ok (.invokevirtual 255, 3) := by decide +kernel
theorem dX12_newName_25 : decode cX12_newName 25 = .ok (.ifCond .lt 8, 3) := by decide +kernel
theorem dX12_newName_28 : decode cX12_newName 28 = .ok (.aload_n 0, 1) := by decide +kernel
theorem dX12_newName_29 : decode cX12_newName 29 = .ok (.iconst 3, 1) := by decide +kernel
theorem dX12_newName_30 : decode cX12_newName 30 = .ok (.invokevirtual 234, 3) := by decide +kernel
theorem dX12_newName_33 : decode cX12_newName 33 = .ok (.aload_n 0, 1) := by decide +kernel
theorem dX12_newName_34 : decode cX12_newName 34 = .ok (.getfield 185, 3) := by decide +kernel
theorem dX12_newName_37 : decode cX12_newName 37 = .ok (.ifCond .le 4, 3) := by decide +kernel
theorem dX12_newName_40 : decode cX12_newName 40 = .ok (.return_, 1) := by decide +kernel
theorem dX12_newName_41 : decode cX12_newName 41 = .ok (.aload_n 0, 1) := by decide +kernel
theorem dX12_newName_42 : decode cX12_newName 42 = .ok (.getfield 17, 3) := by decide +kernel
theorem dX12_newName_45 : decode cX12_newName 45 = .ok (.iload_n 1, 1) := by decide +kernel
theorem dX12_newName_46 : decode cX12_newName 46 = .ok (.iload_n 2, 1) := by decide +kernel
theorem dX12_newName_47 : decode cX12_newName 47 = .ok (.iadd, 1) := by decide +kernel
theorem dX12_newName_48 : decode cX12_newName 48 = .ok (.aload_n 0, 1) := by decide +kernel
theorem dX12_newName_49 : decode cX12_newName 49 = .ok (.getfield 165, 3) := by decide +kernel
theorem dX12_newName_52 : decode cX12_newName 52 = .ok (.lastore, 1) := by decide +kernel
theorem dX12_newName_53 : decode cX12_newName 53 = .ok (.aload_n 0, 1) := by decide +kernel
theorem dX12_newName_54 : decode cX12_newName 54 = .ok (.invokevirtual 237, 3) := by decide +kernel
theorem dX12_newName_57 : decode cX12_newName 57 = .ok (.return_, 1) := by decide +kernel
theorem dX12_oldVillage_0 : decode cX12_oldVillage 0 = .ok (.aload_n 0, 1) := by decide +kernel
theorem dX12_oldVillage_1 : decode cX12_oldVillage 1 = .ok (.getfield 185, 3) := by decide +kernel
theorem dX12_oldVillage_4 : decode cX12_oldVillage 4 = .ok (.ifCond .le 5, 3) := by decide +kernel
theorem dX12_oldVillage_7 : decode cX12_oldVillage 7 = .ok (.iconst 0, 1) := by decide +kernel
theorem dX12_oldVillage_8 : decode cX12_oldVillage 8 = .ok (.ireturn, 1) := by decide +kernel
theorem dX12_oldVillage_9 : decode cX12_oldVillage 9 = .ok (.aload_n 0, 1) := by decide +kernel
theorem dX12_oldVillage_10 : decode cX12_oldVillage 10 = .ok (.invokevirtual 252, 3) := by decide +kernel
theorem dX12_oldVillage_13 : decode cX12_oldVillage 13 = .ok (.ifCond .ne 11, 3) := by decide +kernel
theorem dX12_oldVillage_16 : decode cX12_oldVillage 16 = .ok (.aload_n 0, 1) := by decide +kernel
theorem dX12_oldVillage_17 : decode cX12_oldVillage 17 = .ok (.iconst 2, 1) := by decide +kernel
theorem dX12_oldVillage_18 : decode cX12_oldVillage 18 = .ok (.invokevirtual 234, 3) := by decide +kernel
theorem dX12_oldVillage_21 : decode cX12_oldVillage 21 = .ok (.goto 20, 3) := by decide +kernel
theorem dX12_oldVillage_24 : decode cX12_oldVillage 24 = .ok (.aload_n 0, 1) := by decide +kernel
theorem dX12_oldVillage_25 : decode cX12_oldVillage 25 = .ok (.iconst 0, 1) := by decide +kernel
theorem dX12_oldVillage_26 : decode cX12_oldVillage 26 = .ok (.aload_n 0, 1) := by decide +kernel
theorem dX12_oldVillage_27 : decode cX12_oldVillage 27 = .ok (.getfield 258, 3) := by decide +kernel
theorem dX12_oldVillage_30 : decode cX12_oldVillage 30 = .ok (.invokevirtual 255, 3) := by decide +kernel
theorem dX12_oldVillage_33 : decode cX12_oldVillage 33 = .ok (.ifCond .ge 8, 3) := by decide +kernel
theorem dX12_oldVillage_36 : decode cX12_oldVillage 36 = .ok (.aload_n 0, 1) := by decide +kernel
theorem dX12_oldVillage_37 : decode cX12_oldVillage 37 = .ok (.iconst 5, 1) := by decide +kernel
theorem dX12_oldVillage_38 : decode cX12_oldVillage 38 = .ok (.invokevirtual 234, 3) := by decide +kernel
theorem dX12_oldVillage_41 : decode cX12_oldVillage 41 = .ok (.aload_n 0, 1) := by decide +kernel
theorem dX12_oldVillage_42 : decode cX12_oldVillage 42 = .ok (.getfield 185, 3) := by decide +kernel
theorem dX12_oldVillage_45 : decode cX12_oldVillage 45 = .ok (.ifCond .le 7, 3) := by decide +kernel
theorem dX12_oldVillage_48 : decode cX12_oldVillage 48 = .ok (.iconst 0, 1) := by decide +kernel
theorem dX12_oldVillage_49 : decode cX12_oldVillage 49 = .ok (.goto 12, 3) := by decide +kernel
theorem dX12_oldVillage_52 : decode cX12_oldVillage 52 = .ok (.aload_n 0, 1) := by decide +kernel
theorem dX12_oldVillage_53 : decode cX12_oldVillage 53 = .ok (.iconst 0, 1) := by decide +kernel
theorem dX12_oldVillage_54 : decode cX12_oldVillage 54 = .ok (.aload_n 0, 1) := by decide +kernel
theorem dX12_oldVillage_55 : decode cX12_oldVillage 55 = .ok (.getfield 258, 3) := by decide +kernel
theorem dX12_oldVillage_58 : decode cX12_oldVillage 58 = .ok (.invokevirtual 255, 3) := by decide +kernel
theorem dX12_oldVillage_61 : decode cX12_oldVillage 61 = .ok (.ireturn, 1) := by decide +kernel
theorem dX12_villageBy_0 : decode cX12_villageBy 0 = .ok (.aload_n 0, 1) := by decide +kernel
theorem dX12_villageBy_1 : decode cX12_villageBy 1 = .ok (.lload_n 1, 1) := by decide +kernel
theorem dX12_villageBy_2 : decode cX12_villageBy 2 = .ok (.invokevirtual 240, 3) := by decide +kernel
theorem dX12_villageBy_5 : decode cX12_villageBy 5 = .ok (.aload_n 0, 1) := by decide +kernel
theorem dX12_villageBy_6 : decode cX12_villageBy 6 = .ok (.invokevirtual 261, 3) := by decide +kernel
theorem dX12_villageBy_9 : decode cX12_villageBy 9 = .ok (.istore_n 3, 1) := by decide +kernel
theorem dX12_villageBy_10 : decode cX12_villageBy 10 = .ok (.aload_n 0, 1) := by decide +kernel
theorem dX12_villageBy_11 : decode cX12_villageBy 11 = .ok (.getfield 185, 3) := by decide +kernel
theorem dX12_villageBy_14 : decode cX12_villageBy 14 = .ok (.ifCond .ne 7, 3) := by decide +kernel
theorem dX12_villageBy_17 : decode cX12_villageBy 17 = .ok (.aload_n 0, 1) := by decide +kernel
theorem dX12_villageBy_18 : decode cX12_villageBy 18 = .ok (.invokevirtual 237, 3) := by decide +kernel
theorem dX12_villageBy_21 : decode cX12_villageBy 21 = .ok (.iload_n 3, 1) := by decide +kernel
theorem dX12_villageBy_22 : decode cX12_villageBy 22 = .ok (.ireturn, 1) := by decide +kernel
theorem dX12_goalBut_0 : decode cX12_goalBut 0 = .ok (.aload_n 0, 1) := by decide +kernel
theorem dX12_goalBut_1 : decode cX12_goalBut 1 = .ok (.ldc2_w 196, 3) := by decide +kernel
theorem dX12_goalBut_4 : decode cX12_goalBut 4 = .ok (.invokevirtual 240, 3) := by decide +kernel
theorem dX12_goalBut_7 : decode cX12_goalBut 7 = .ok (.aload_n 0, 1) := by decide +kernel
theorem dX12_goalBut_8 : decode cX12_goalBut 8 = .ok (.invokevirtual 261, 3) := by decide +kernel
theorem dX12_goalBut_11 : decode cX12_goalBut 11 = .ok (.istore_n 2, 1) := by decide +kernel
theorem dX12_goalBut_12 : decode cX12_goalBut 12 = .ok (.aload_n 0, 1) := by decide +kernel
theorem dX12_goalBut_13 : decode cX12_goalBut 13 = .ok (.getfield 185, 3) := by decide +kernel
theorem dX12_goalBut_16 : decode cX12_goalBut 16 = .ok (.ifCond .ne 13, 3) := by decide +kernel
theorem dX12_goalBut_19 : decode cX12_goalBut 19 = .ok (.iload_n 2, 1) := by decide +kernel
theorem dX12_goalBut_20 : decode cX12_goalBut 20 = .ok (.iload_n 1, 1) := by decide +kernel
theorem dX12_goalBut_21 : decode cX12_goalBut 21 = .ok (.if_icmp .ne 8, 3) := by decide +kernel
theorem dX12_goalBut_24 : decode cX12_goalBut 24 = .ok (.aload_n 0, 1) := by decide +kernel
theorem dX12_goalBut_25 : decode cX12_goalBut 25 = .ok (.iconst 3, 1) := by decide +kernel
theorem dX12_goalBut_26 : decode cX12_goalBut 26 = .ok (.invokevirtual 234, 3) := by decide +kernel
theorem dX12_goalBut_29 : decode cX12_goalBut 29 = .ok (.aload_n 0, 1) := by decide +kernel
theorem dX12_goalBut_30 : decode cX12_goalBut 30 = .ok (.getfield 185, 3) := by decide +kernel
theorem dX12_goalBut_33 : decode cX12_goalBut 33 = .ok (.ifCond .ne 7, 3) := by decide +kernel
theorem dX12_goalBut_36 : decode cX12_goalBut 36 = .ok (.aload_n 0, 1) := by decide +kernel
theorem dX12_goalBut_37 : decode cX12_goalBut 37 = .ok (.invokevirtual 237, 3) := by decide +kernel
theorem dX12_goalBut_40 : decode cX12_goalBut 40 = .ok (.iload_n 2, 1) := by decide +kernel
theorem dX12_goalBut_41 : decode cX12_goalBut 41 = .ok (.ireturn, 1) := by decide +kernel
theorem dX12_add_0 : decode cX12_add 0 = .ok (.aload_n 0, 1) := by decide +kernel
theorem dX12_add_1 : decode cX12_add 1 = .ok (.getfield 21, 3) := by decide +kernel
theorem dX12_add_4 : decode cX12_add 4 = .ok (.aload_n 0, 1) := by decide +kernel
theorem dX12_add_5 : decode cX12_add 5 = .ok (.getfield 265, 3) := by decide +kernel
theorem dX12_add_8 : decode cX12_add 8 = .ok (.iload_n 1, 1) := by decide +kernel
theorem dX12_add_9 : decode cX12_add 9 = .ok (.iastore, 1) := by decide +kernel
theorem dX12_add_10 : decode cX12_add 10 = .ok (.aload_n 0, 1) := by decide +kernel
theorem dX12_add_11 : decode cX12_add 11 = .ok (.getfield 24, 3) := by decide +kernel
theorem dX12_add_14 : decode cX12_add 14 = .ok (.aload_n 0, 1) := by decide +kernel
theorem dX12_add_15 : decode cX12_add 15 = .ok (.getfield 265, 3) := by decide +kernel
theorem dX12_add_18 : decode cX12_add 18 = .ok (.iload_n 2, 1) := by decide +kernel
theorem dX12_add_19 : decode cX12_add 19 = .ok (.iastore, 1) := by decide +kernel
theorem dX12_add_20 : decode cX12_add 20 = .ok (.aload_n 0, 1) := by decide +kernel
theorem dX12_add_21 : decode cX12_add 21 = .ok (.dup, 1) := by decide +kernel
theorem dX12_add_22 : decode cX12_add 22 = .ok (.getfield 265, 3) := by decide +kernel
theorem dX12_add_25 : decode cX12_add 25 = .ok (.iconst 1, 1) := by decide +kernel
theorem dX12_add_26 : decode cX12_add 26 = .ok (.iadd, 1) := by decide +kernel
theorem dX12_add_27 : decode cX12_add 27 = .ok (.putfield 265, 3) := by decide +kernel
theorem dX12_add_30 : decode cX12_add 30 = .ok (.return_, 1) := by decide +kernel
theorem dX12_tight_0 : decode cX12_tight 0 = .ok (.iload_n 0, 1) := by decide +kernel
theorem dX12_tight_1 : decode cX12_tight 1 = .ok (.lookupswitch 85 #[(21, 79), (38, 77), (43, 83), (45, 83), (60, 81), (61, 81), (62, 81), (124, 75)], 75) := by decide +kernel
theorem dX12_tight_76 : decode cX12_tight 76 = .ok (.iconst 1, 1) := by decide +kernel
theorem dX12_tight_77 : decode cX12_tight 77 = .ok (.ireturn, 1) := by decide +kernel
theorem dX12_tight_78 : decode cX12_tight 78 = .ok (.iconst 2, 1) := by decide +kernel
theorem dX12_tight_79 : decode cX12_tight 79 = .ok (.ireturn, 1) := by decide +kernel
theorem dX12_tight_80 : decode cX12_tight 80 = .ok (.iconst 3, 1) := by decide +kernel
theorem dX12_tight_81 : decode cX12_tight 81 = .ok (.ireturn, 1) := by decide +kernel
theorem dX12_tight_82 : decode cX12_tight 82 = .ok (.iconst 4, 1) := by decide +kernel
theorem dX12_tight_83 : decode cX12_tight 83 = .ok (.ireturn, 1) := by decide +kernel
theorem dX12_tight_84 : decode cX12_tight 84 = .ok (.iconst 5, 1) := by decide +kernel
theorem dX12_tight_85 : decode cX12_tight 85 = .ok (.ireturn, 1) := by decide +kernel
theorem dX12_tight_86 : decode cX12_tight 86 = .ok (.bipush 6, 2) := by decide +kernel
theorem dX12_tight_88 : decode cX12_tight 88 = .ok (.ireturn, 1) := by decide +kernel
theorem dX12_closeTo_0 : decode cX12_closeTo 0 = .ok (.aload_n 0, 1) := by decide +kernel
theorem dX12_closeTo_1 : decode cX12_closeTo 1 = .ok (.getfield 268, 3) := by decide +kernel
theorem dX12_closeTo_4 : decode cX12_closeTo 4 = .ok (.ifCond .le 97, 3) := by decide +kernel
theorem dX12_closeTo_7 : decode cX12_closeTo 7 = .ok (.aload_n 0, 1) := by decide +kernel
theorem dX12_closeTo_8 : decode cX12_closeTo 8 = .ok (.getfield 33, 3) := by decide +kernel
theorem dX12_closeTo_11 : decode cX12_closeTo 11 = .ok (.aload_n 0, 1) := by decide +kernel
theorem dX12_closeTo_12 : decode cX12_closeTo 12 = .ok (.getfield 268, 3) := by decide +kernel
theorem dX12_closeTo_15 : decode cX12_closeTo 15 = .ok (.iconst 1, 1) := by decide +kernel
theorem dX12_closeTo_16 : decode cX12_closeTo 16 = .ok (.isub, 1) := by decide +kernel
theorem dX12_closeTo_17 : decode cX12_closeTo 17 = .ok (.iaload, 1) := by decide +kernel
theorem dX12_closeTo_18 : decode cX12_closeTo 18 = .ok (.bipush 20, 2) := by decide +kernel
theorem dX12_closeTo_20 : decode cX12_closeTo 20 = .ok (.if_icmp .eq 81, 3) := by decide +kernel
theorem dX12_closeTo_23 : decode cX12_closeTo 23 = .ok (.aload_n 0, 1) := by decide +kernel
theorem dX12_closeTo_24 : decode cX12_closeTo 24 = .ok (.getfield 33, 3) := by decide +kernel
theorem dX12_closeTo_27 : decode cX12_closeTo 27 = .ok (.aload_n 0, 1) := by decide +kernel
theorem dX12_closeTo_28 : decode cX12_closeTo 28 = .ok (.getfield 268, 3) := by decide +kernel
theorem dX12_closeTo_31 : decode cX12_closeTo 31 = .ok (.iconst 1, 1) := by decide +kernel
theorem dX12_closeTo_32 : decode cX12_closeTo 32 = .ok (.isub, 1) := by decide +kernel
theorem dX12_closeTo_33 : decode cX12_closeTo 33 = .ok (.iaload, 1) := by decide +kernel
theorem dX12_closeTo_34 : decode cX12_closeTo 34 = .ok (.invokestatic 271, 3) := by decide +kernel
theorem dX12_closeTo_37 : decode cX12_closeTo 37 = .ok (.iload_n 1, 1) := by decide +kernel
theorem dX12_closeTo_38 : decode cX12_closeTo 38 = .ok (.if_icmp .lt 63, 3) := by decide +kernel
theorem dX12_closeTo_41 : decode cX12_closeTo 41 = .ok (.aload_n 0, 1) := by decide +kernel
theorem dX12_closeTo_42 : decode cX12_closeTo 42 = .ok (.dup, 1) := by decide +kernel
theorem dX12_closeTo_43 : decode cX12_closeTo 43 = .ok (.getfield 268, 3) := by decide +kernel
theorem dX12_closeTo_46 : decode cX12_closeTo 46 = .ok (.iconst 1, 1) := by decide +kernel
theorem dX12_closeTo_47 : decode cX12_closeTo 47 = .ok (.isub, 1) := by decide +kernel
theorem dX12_closeTo_48 : decode cX12_closeTo 48 = .ok (.putfield 268, 3) := by decide +kernel
theorem dX12_closeTo_51 : decode cX12_closeTo 51 = .ok (.aload_n 0, 1) := by decide +kernel
theorem dX12_closeTo_52 : decode cX12_closeTo 52 = .ok (.getfield 33, 3) := by decide +kernel
theorem dX12_closeTo_55 : decode cX12_closeTo 55 = .ok (.aload_n 0, 1) := by decide +kernel
theorem dX12_closeTo_56 : decode cX12_closeTo 56 = .ok (.getfield 268, 3) := by decide +kernel
theorem dX12_closeTo_59 : decode cX12_closeTo 59 = .ok (.iaload, 1) := by decide +kernel
theorem dX12_closeTo_60 : decode cX12_closeTo 60 = .ok (.bipush 21, 2) := by decide +kernel
theorem dX12_closeTo_62 : decode cX12_closeTo 62 = .ok (.if_icmp .ne 22, 3) := by decide +kernel
theorem dX12_closeTo_65 : decode cX12_closeTo 65 = .ok (.aload_n 0, 1) := by decide +kernel
theorem dX12_closeTo_66 : decode cX12_closeTo 66 = .ok (.iconst 2, 1) := by decide +kernel
theorem dX12_closeTo_67 : decode cX12_closeTo 67 = .ok (.iconst 0, 1) := by decide +kernel
theorem dX12_closeTo_68 : decode cX12_closeTo 68 = .ok (.invokevirtual 274, 3) := by decide +kernel
theorem dX12_closeTo_71 : decode cX12_closeTo 71 = .ok (.aload_n 0, 1) := by decide +kernel
theorem dX12_closeTo_72 : decode cX12_closeTo 72 = .ok (.dup, 1) := by decide +kernel
theorem dX12_closeTo_73 : decode cX12_closeTo 73 = .ok (.getfield 278, 3) := by decide +kernel
theorem dX12_closeTo_76 : decode cX12_closeTo 76 = .ok (.iconst 1, 1) := by decide +kernel
theorem dX12_closeTo_77 : decode cX12_closeTo 77 = .ok (.isub, 1) := by decide +kernel
theorem dX12_closeTo_78 : decode cX12_closeTo 78 = .ok (.putfield 278, 3) := by decide +kernel
theorem dX12_closeTo_81 : decode cX12_closeTo 81 = .ok (.goto (-81), 3) := by decide +kernel
theorem dX12_closeTo_84 : decode cX12_closeTo 84 = .ok (.aload_n 0, 1) := by decide +kernel
theorem dX12_closeTo_85 : decode cX12_closeTo 85 = .ok (.iconst 3, 1) := by decide +kernel
theorem dX12_closeTo_86 : decode cX12_closeTo 86 = .ok (.aload_n 0, 1) := by decide +kernel
theorem dX12_closeTo_87 : decode cX12_closeTo 87 = .ok (.getfield 33, 3) := by decide +kernel
theorem dX12_closeTo_90 : decode cX12_closeTo 90 = .ok (.aload_n 0, 1) := by decide +kernel
theorem dX12_closeTo_91 : decode cX12_closeTo 91 = .ok (.getfield 268, 3) := by decide +kernel
theorem dX12_closeTo_94 : decode cX12_closeTo 94 = .ok (.iaload, 1) := by decide +kernel
theorem dX12_closeTo_95 : decode cX12_closeTo 95 = .ok (.invokevirtual 274, 3) := by decide +kernel
theorem dX12_closeTo_98 : decode cX12_closeTo 98 = .ok (.goto (-98), 3) := by decide +kernel
theorem dX12_closeTo_101 : decode cX12_closeTo 101 = .ok (.return_, 1) := by decide +kernel
theorem dX12_hasRelation_0 : decode cX12_hasRelation 0 = .ok (.aload_n 0, 1) := by decide +kernel
theorem dX12_hasRelation_1 : decode cX12_hasRelation 1 = .ok (.getfield 268, 3) := by decide +kernel
theorem dX12_hasRelation_4 : decode cX12_hasRelation 4 = .ok (.iconst 1, 1) := by decide +kernel
theorem dX12_hasRelation_5 : decode cX12_hasRelation 5 = .ok (.isub, 1) := by decide +kernel
theorem dX12_hasRelation_6 : decode cX12_hasRelation 6 = .ok (.istore_n 1, 1) := by decide +kernel
theorem dX12_hasRelation_7 : decode cX12_hasRelation 7 = .ok (.iload_n 1, 1) := by decide +kernel
theorem dX12_hasRelation_8 : decode cX12_hasRelation 8 = .ok (.ifCond .lt 33, 3) := by decide +kernel
theorem dX12_hasRelation_11 : decode cX12_hasRelation 11 = .ok (.aload_n 0, 1) := by decide +kernel
theorem dX12_hasRelation_12 : decode cX12_hasRelation 12 = .ok (.getfield 33, 3) := by decide +kernel
theorem dX12_hasRelation_15 : decode cX12_hasRelation 15 = .ok (.iload_n 1, 1) := by decide +kernel
theorem dX12_hasRelation_16 : decode cX12_hasRelation 16 = .ok (.iaload, 1) := by decide +kernel
theorem dX12_hasRelation_17 : decode cX12_hasRelation 17 = .ok (.bipush 20, 2) := by decide +kernel
theorem dX12_hasRelation_19 : decode cX12_hasRelation 19 = .ok (.if_icmp .eq 22, 3) := by decide +kernel
theorem dX12_hasRelation_22 : decode cX12_hasRelation 22 = .ok (.aload_n 0, 1) := by decide +kernel
theorem dX12_hasRelation_23 : decode cX12_hasRelation 23 = .ok (.getfield 33, 3) := by decide +kernel
theorem dX12_hasRelation_26 : decode cX12_hasRelation 26 = .ok (.iload_n 1, 1) := by decide +kernel
theorem dX12_hasRelation_27 : decode cX12_hasRelation 27 = .ok (.iaload, 1) := by decide +kernel
theorem dX12_hasRelation_28 : decode cX12_hasRelation 28 = .ok (.invokestatic 271, 3) := by decide +kernel
theorem dX12_hasRelation_31 : decode cX12_hasRelation 31 = .ok (.iconst 4, 1) := by decide +kernel
theorem dX12_hasRelation_32 : decode cX12_hasRelation 32 = .ok (.if_icmp .le 9, 3) := by decide +kernel
theorem dX12_hasRelation_35 : decode cX12_hasRelation 35 = .ok (.iinc 1 (-1), 3) := by decide +kernel
theorem dX12_hasRelation_38 : decode cX12_hasRelation 38 = .ok (.goto (-31), 3) := by decide +kernel
theorem dX12_hasRelation_41 : decode cX12_hasRelation 41 = .ok (.iload_n 1, 1) := by decide +kernel
theorem dX12_hasRelation_42 : decode cX12_hasRelation 42 = .ok (.ifCond .lt 31, 3) := by decide +kernel
theorem dX12_hasRelation_45 : decode cX12_hasRelation 45 = .ok (.aload_n 0, 1) := by decide +kernel
theorem dX12_hasRelation_46 : decode cX12_hasRelation 46 = .ok (.getfield 33, 3) := by decide +kernel
theorem dX12_hasRelation_49 : decode cX12_hasRelation 49 = .ok (.iload_n 1, 1) := by decide +kernel
theorem dX12_hasRelation_50 : decode cX12_hasRelation 50 = .ok (.iaload, 1) := by decide +kernel
theorem dX12_hasRelation_51 : decode cX12_hasRelation 51 = .ok (.bipush 20, 2) := by decide +kernel
theorem dX12_hasRelation_53 : decode cX12_hasRelation 53 = .ok (.if_icmp .eq 20, 3) := by decide +kernel
theorem dX12_hasRelation_56 : decode cX12_hasRelation 56 = .ok (.aload_n 0, 1) := by decide +kernel
theorem dX12_hasRelation_57 : decode cX12_hasRelation 57 = .ok (.getfield 33, 3) := by decide +kernel
theorem dX12_hasRelation_60 : decode cX12_hasRelation 60 = .ok (.iload_n 1, 1) := by decide +kernel
theorem dX12_hasRelation_61 : decode cX12_hasRelation 61 = .ok (.iaload, 1) := by decide +kernel
theorem dX12_hasRelation_62 : decode cX12_hasRelation 62 = .ok (.invokestatic 271, 3) := by decide +kernel
theorem dX12_hasRelation_65 : decode cX12_hasRelation 65 = .ok (.iconst 4, 1) := by decide +kernel
theorem dX12_hasRelation_66 : decode cX12_hasRelation 66 = .ok (.if_icmp .ne 7, 3) := by decide +kernel
theorem dX12_hasRelation_69 : decode cX12_hasRelation 69 = .ok (.iconst 1, 1) := by decide +kernel
theorem dX12_hasRelation_70 : decode cX12_hasRelation 70 = .ok (.goto 4, 3) := by decide +kernel
theorem dX12_hasRelation_73 : decode cX12_hasRelation 73 = .ok (.iconst 0, 1) := by decide +kernel
theorem dX12_hasRelation_74 : decode cX12_hasRelation 74 = .ok (.ireturn, 1) := by decide +kernel
theorem dX12_mayNot_0 : decode cX12_mayNot 0 = .ok (.aload_n 0, 1) := by decide +kernel
theorem dX12_mayNot_1 : decode cX12_mayNot 1 = .ok (.getfield 268, 3) := by decide +kernel
theorem dX12_mayNot_4 : decode cX12_mayNot 4 = .ok (.ifCond .eq 37, 3) := by decide +kernel
theorem dX12_mayNot_7 : decode cX12_mayNot 7 = .ok (.aload_n 0, 1) := by decide +kernel
theorem dX12_mayNot_8 : decode cX12_mayNot 8 = .ok (.getfield 33, 3) := by decide +kernel
theorem dX12_mayNot_11 : decode cX12_mayNot 11 = .ok (.aload_n 0, 1) := by decide +kernel
theorem dX12_mayNot_12 : decode cX12_mayNot 12 = .ok (.getfield 268, 3) := by decide +kernel
theorem dX12_mayNot_15 : decode cX12_mayNot 15 = .ok (.iconst 1, 1) := by decide +kernel
theorem dX12_mayNot_16 : decode cX12_mayNot 16 = .ok (.isub, 1) := by decide +kernel
theorem dX12_mayNot_17 : decode cX12_mayNot 17 = .ok (.iaload, 1) := by decide +kernel
theorem dX12_mayNot_18 : decode cX12_mayNot 18 = .ok (.bipush 20, 2) := by decide +kernel
theorem dX12_mayNot_20 : decode cX12_mayNot 20 = .ok (.if_icmp .eq 21, 3) := by decide +kernel
theorem dX12_mayNot_23 : decode cX12_mayNot 23 = .ok (.aload_n 0, 1) := by decide +kernel
theorem dX12_mayNot_24 : decode cX12_mayNot 24 = .ok (.getfield 33, 3) := by decide +kernel
theorem dX12_mayNot_27 : decode cX12_mayNot 27 = .ok (.aload_n 0, 1) := by decide +kernel
theorem dX12_mayNot_28 : decode cX12_mayNot 28 = .ok (.getfield 268, 3) := by decide +kernel
theorem dX12_mayNot_31 : decode cX12_mayNot 31 = .ok (.iconst 1, 1) := by decide +kernel
theorem dX12_mayNot_32 : decode cX12_mayNot 32 = .ok (.isub, 1) := by decide +kernel
theorem dX12_mayNot_33 : decode cX12_mayNot 33 = .ok (.iaload, 1) := by decide +kernel
theorem dX12_mayNot_34 : decode cX12_mayNot 34 = .ok (.invokestatic 271, 3) := by decide +kernel
theorem dX12_mayNot_37 : decode cX12_mayNot 37 = .ok (.iconst 4, 1) := by decide +kernel
theorem dX12_mayNot_38 : decode cX12_mayNot 38 = .ok (.if_icmp .ge 7, 3) := by decide +kernel
theorem dX12_mayNot_41 : decode cX12_mayNot 41 = .ok (.iconst 1, 1) := by decide +kernel
theorem dX12_mayNot_42 : decode cX12_mayNot 42 = .ok (.goto 4, 3) := by decide +kernel
theorem dX12_mayNot_45 : decode cX12_mayNot 45 = .ok (.iconst 0, 1) := by decide +kernel
theorem dX12_mayNot_46 : decode cX12_mayNot 46 = .ok (.ireturn, 1) := by decide +kernel
theorem dX12_asked_0 : decode cX12_asked 0 = .ok (.aload_n 0, 1) := by decide +kernel
theorem dX12_asked_1 : decode cX12_asked 1 = .ok (.getfield 172, 3) := by decide +kernel
theorem dX12_asked_4 : decode cX12_asked 4 = .ok (.iconst 1, 1) := by decide +kernel
theorem dX12_asked_5 : decode cX12_asked 5 = .ok (.if_icmp .eq 5, 3) := by decide +kernel
theorem dX12_asked_8 : decode cX12_asked 8 = .ok (.iconst (-1), 1) := by decide +kernel
theorem dX12_asked_9 : decode cX12_asked 9 = .ok (.ireturn, 1) := by decide +kernel
theorem dX12_asked_10 : decode cX12_asked 10 = .ok (.aload_n 0, 1) := by decide +kernel
theorem dX12_asked_11 : decode cX12_asked 11 = .ok (.getfield 165, 3) := by decide +kernel
theorem dX12_asked_14 : decode cX12_asked 14 = .ok (.ldc2_w 214, 3) := by decide +kernel
theorem dX12_asked_17 : decode cX12_asked 17 = .ok (.lcmp, 1) := by decide +kernel
theorem dX12_asked_18 : decode cX12_asked 18 = .ok (.ifCond .ne 5, 3) := by decide +kernel
theorem dX12_asked_21 : decode cX12_asked 21 = .ok (.iconst 0, 1) := by decide +kernel
theorem dX12_asked_22 : decode cX12_asked 22 = .ok (.ireturn, 1) := by decide +kernel
theorem dX12_asked_23 : decode cX12_asked 23 = .ok (.aload_n 0, 1) := by decide +kernel
theorem dX12_asked_24 : decode cX12_asked 24 = .ok (.getfield 165, 3) := by decide +kernel
theorem dX12_asked_27 : decode cX12_asked 27 = .ok (.ldc2_w 200, 3) := by decide +kernel
theorem dX12_asked_30 : decode cX12_asked 30 = .ok (.lcmp, 1) := by decide +kernel
theorem dX12_asked_31 : decode cX12_asked 31 = .ok (.ifCond .ne 5, 3) := by decide +kernel
theorem dX12_asked_34 : decode cX12_asked 34 = .ok (.iconst 1, 1) := by decide +kernel
theorem dX12_asked_35 : decode cX12_asked 35 = .ok (.ireturn, 1) := by decide +kernel
theorem dX12_asked_36 : decode cX12_asked 36 = .ok (.aload_n 0, 1) := by decide +kernel
theorem dX12_asked_37 : decode cX12_asked 37 = .ok (.getfield 165, 3) := by decide +kernel
theorem dX12_asked_40 : decode cX12_asked 40 = .ok (.ldc2_w 216, 3) := by decide +kernel
theorem dX12_asked_43 : decode cX12_asked 43 = .ok (.lcmp, 1) := by decide +kernel
theorem dX12_asked_44 : decode cX12_asked 44 = .ok (.ifCond .ne 5, 3) := by decide +kernel
theorem dX12_asked_47 : decode cX12_asked 47 = .ok (.iconst 2, 1) := by decide +kernel
theorem dX12_asked_48 : decode cX12_asked 48 = .ok (.ireturn, 1) := by decide +kernel
theorem dX12_asked_49 : decode cX12_asked 49 = .ok (.aload_n 0, 1) := by decide +kernel
theorem dX12_asked_50 : decode cX12_asked 50 = .ok (.getfield 165, 3) := by decide +kernel
theorem dX12_asked_53 : decode cX12_asked 53 = .ok (.ldc2_w 218, 3) := by decide +kernel
theorem dX12_asked_56 : decode cX12_asked 56 = .ok (.lcmp, 1) := by decide +kernel
theorem dX12_asked_57 : decode cX12_asked 57 = .ok (.ifCond .ne 7, 3) := by decide +kernel
theorem dX12_asked_60 : decode cX12_asked 60 = .ok (.iconst 3, 1) := by decide +kernel
theorem dX12_asked_61 : decode cX12_asked 61 = .ok (.goto 4, 3) := by decide +kernel
theorem dX12_asked_64 : decode cX12_asked 64 = .ok (.iconst (-1), 1) := by decide +kernel
theorem dX12_asked_65 : decode cX12_asked 65 = .ok (.ireturn, 1) := by decide +kernel
theorem dX12_isFull_0 : decode cX12_isFull 0 = .ok (.aload_n 0, 1) := by decide +kernel
theorem dX12_isFull_1 : decode cX12_isFull 1 = .ok (.getfield 281, 3) := by decide +kernel
theorem dX12_isFull_4 : decode cX12_isFull 4 = .ok (.bipush 60, 2) := by decide +kernel
theorem dX12_isFull_6 : decode cX12_isFull 6 = .ok (.if_icmp .eq 12, 3) := by decide +kernel
theorem dX12_isFull_9 : decode cX12_isFull 9 = .ok (.aload_n 0, 1) := by decide +kernel
theorem dX12_isFull_10 : decode cX12_isFull 10 = .ok (.getfield 284, 3) := by decide +kernel
theorem dX12_isFull_13 : decode cX12_isFull 13 = .ok (.bipush 30, 2) := by decide +kernel
theorem dX12_isFull_15 : decode cX12_isFull 15 = .ok (.if_icmp .ne 7, 3) := by decide +kernel
theorem dX12_isFull_18 : decode cX12_isFull 18 = .ok (.iconst 1, 1) := by decide +kernel
theorem dX12_isFull_19 : decode cX12_isFull 19 = .ok (.goto 4, 3) := by decide +kernel
theorem dX12_isFull_22 : decode cX12_isFull 22 = .ok (.iconst 0, 1) := by decide +kernel
theorem dX12_isFull_23 : decode cX12_isFull 23 = .ok (.ireturn, 1) := by decide +kernel
theorem dX12_countUnit_0 : decode cX12_countUnit 0 = .ok (.aload_n 0, 1) := by decide +kernel
theorem dX12_countUnit_1 : decode cX12_countUnit 1 = .ok (.dup, 1) := by decide +kernel
theorem dX12_countUnit_2 : decode cX12_countUnit 2 = .ok (.getfield 281, 3) := by decide +kernel
theorem dX12_countUnit_5 : decode cX12_countUnit 5 = .ok (.iconst 1, 1) := by decide +kernel
theorem dX12_countUnit_6 : decode cX12_countUnit 6 = .ok (.iadd, 1) := by decide +kernel
theorem dX12_countUnit_7 : decode cX12_countUnit 7 = .ok (.putfield 281, 3) := by decide +kernel
theorem dX12_countUnit_10 : decode cX12_countUnit 10 = .ok (.aload_n 0, 1) := by decide +kernel
theorem dX12_countUnit_11 : decode cX12_countUnit 11 = .ok (.dup, 1) := by decide +kernel
theorem dX12_countUnit_12 : decode cX12_countUnit 12 = .ok (.getfield 284, 3) := by decide +kernel
theorem dX12_countUnit_15 : decode cX12_countUnit 15 = .ok (.iconst 1, 1) := by decide +kernel
theorem dX12_countUnit_16 : decode cX12_countUnit 16 = .ok (.iadd, 1) := by decide +kernel
theorem dX12_countUnit_17 : decode cX12_countUnit 17 = .ok (.putfield 284, 3) := by decide +kernel
theorem dX12_countUnit_20 : decode cX12_countUnit 20 = .ok (.return_, 1) := by decide +kernel
theorem dX12_openUp_0 : decode cX12_openUp 0 = .ok (.aload_n 0, 1) := by decide +kernel
theorem dX12_openUp_1 : decode cX12_openUp 1 = .ok (.getfield 33, 3) := by decide +kernel
theorem dX12_openUp_4 : decode cX12_openUp 4 = .ok (.aload_n 0, 1) := by decide +kernel
theorem dX12_openUp_5 : decode cX12_openUp 5 = .ok (.getfield 268, 3) := by decide +kernel
theorem dX12_openUp_8 : decode cX12_openUp 8 = .ok (.iload_n 1, 1) := by decide +kernel
theorem dX12_openUp_9 : decode cX12_openUp 9 = .ok (.iastore, 1) := by decide +kernel
theorem dX12_openUp_10 : decode cX12_openUp 10 = .ok (.aload_n 0, 1) := by decide +kernel
theorem dX12_openUp_11 : decode cX12_openUp 11 = .ok (.dup, 1) := by decide +kernel
theorem dX12_openUp_12 : decode cX12_openUp 12 = .ok (.getfield 268, 3) := by decide +kernel
theorem dX12_openUp_15 : decode cX12_openUp 15 = .ok (.iconst 1, 1) := by decide +kernel
theorem dX12_openUp_16 : decode cX12_openUp 16 = .ok (.iadd, 1) := by decide +kernel
theorem dX12_openUp_17 : decode cX12_openUp 17 = .ok (.putfield 268, 3) := by decide +kernel
theorem dX12_openUp_20 : decode cX12_openUp 20 = .ok (.aload_n 0, 1) := by decide +kernel
theorem dX12_openUp_21 : decode cX12_openUp 21 = .ok (.dup, 1) := by decide +kernel
theorem dX12_openUp_22 : decode cX12_openUp 22 = .ok (.getfield 278, 3) := by decide +kernel
theorem dX12_openUp_25 : decode cX12_openUp 25 = .ok (.iconst 1, 1) := by decide +kernel
theorem dX12_openUp_26 : decode cX12_openUp 26 = .ok (.iadd, 1) := by decide +kernel
theorem dX12_openUp_27 : decode cX12_openUp 27 = .ok (.putfield 278, 3) := by decide +kernel
theorem dX12_openUp_30 : decode cX12_openUp 30 = .ok (.aload_n 0, 1) := by decide +kernel
theorem dX12_openUp_31 : decode cX12_openUp 31 = .ok (.getfield 185, 3) := by decide +kernel
theorem dX12_openUp_34 : decode cX12_openUp 34 = .ok (.ifCond .ne 7, 3) := by decide +kernel
theorem dX12_openUp_37 : decode cX12_openUp 37 = .ok (.aload_n 0, 1) := by decide +kernel
theorem dX12_openUp_38 : decode cX12_openUp 38 = .ok (.invokevirtual 237, 3) := by decide +kernel
theorem dX12_openUp_41 : decode cX12_openUp 41 = .ok (.return_, 1) := by decide +kernel
theorem dX12_unit_0 : decode cX12_unit 0 = .ok (.iconst 1, 1) := by decide +kernel
theorem dX12_unit_1 : decode cX12_unit 1 = .ok (.istore_n 1, 1) := by decide +kernel
theorem dX12_unit_2 : decode cX12_unit 2 = .ok (.iload_n 1, 1) := by decide +kernel
theorem dX12_unit_3 : decode cX12_unit 3 = .ok (.ifCond .eq 98, 3) := by decide +kernel
theorem dX12_unit_6 : decode cX12_unit 6 = .ok (.aload_n 0, 1) := by decide +kernel
theorem dX12_unit_7 : decode cX12_unit 7 = .ok (.getfield 185, 3) := by decide +kernel
theorem dX12_unit_10 : decode cX12_unit 10 = .ok (.ifCond .ne 91, 3) := by decide +kernel
theorem dX12_unit_13 : decode cX12_unit 13 = .ok (.aload_n 0, 1) := by decide +kernel
theorem dX12_unit_14 : decode cX12_unit 14 = .ok (.ldc2_w 224, 3) := by decide +kernel
theorem dX12_unit_17 : decode cX12_unit 17 = .ok (.invokevirtual 230, 3) := by decide +kernel
theorem dX12_unit_20 : decode cX12_unit 20 = .ok (.ifCond .eq 33, 3) := by decide +kernel
theorem dX12_unit_23 : decode cX12_unit 23 = .ok (.aload_n 0, 1) := by decide +kernel
theorem dX12_unit_24 : decode cX12_unit 24 = .ok (.invokevirtual 287, 3) := by decide +kernel
theorem dX12_unit_27 : decode cX12_unit 27 = .ok (.ifCond .eq 26, 3) := by decide +kernel
theorem dX12_unit_30 : decode cX12_unit 30 = .ok (.aload_n 0, 1) := by decide +kernel
theorem dX12_unit_31 : decode cX12_unit 31 = .ok (.getfield 278, 3) := by decide +kernel
theorem dX12_unit_34 : decode cX12_unit 34 = .ok (.bipush 6, 2) := by decide +kernel
theorem dX12_unit_36 : decode cX12_unit 36 = .ok (.if_icmp .le 8, 3) := by decide +kernel
theorem dX12_unit_39 : decode cX12_unit 39 = .ok (.aload_n 0, 1) := by decide +kernel
theorem dX12_unit_40 : decode cX12_unit 40 = .ok (.iconst 2, 1) := by decide +kernel
theorem dX12_unit_41 : decode cX12_unit 41 = .ok (.invokevirtual 234, 3) := by decide +kernel
theorem dX12_unit_44 : decode cX12_unit 44 = .ok (.aload_n 0, 1) := by decide +kernel
theorem dX12_unit_45 : decode cX12_unit 45 = .ok (.bipush 21, 2) := by decide +kernel
theorem dX12_unit_47 : decode cX12_unit 47 = .ok (.invokevirtual 290, 3) := by decide +kernel
theorem dX12_unit_50 : decode cX12_unit 50 = .ok (.goto (-48), 3) := by decide +kernel
theorem dX12_unit_53 : decode cX12_unit 53 = .ok (.aload_n 0, 1) := by decide +kernel
theorem dX12_unit_54 : decode cX12_unit 54 = .ok (.getfield 172, 3) := by decide +kernel
theorem dX12_unit_57 : decode cX12_unit 57 = .ok (.bipush 40, 2) := by decide +kernel
theorem dX12_unit_59 : decode cX12_unit 59 = .ok (.if_icmp .ne 37, 3) := by decide +kernel
theorem dX12_unit_62 : decode cX12_unit 62 = .ok (.aload_n 0, 1) := by decide +kernel
theorem dX12_unit_63 : decode cX12_unit 63 = .ok (.invokevirtual 293, 3) := by decide +kernel
theorem dX12_unit_66 : decode cX12_unit 66 = .ok (.ifCond .ne 12, 3) := by decide +kernel
theorem dX12_unit_69 : decode cX12_unit 69 = .ok (.aload_n 0, 1) := by decide +kernel
theorem dX12_unit_70 : decode cX12_unit 70 = .ok (.getfield 278, 3) := by decide +kernel
theorem dX12_unit_73 : decode cX12_unit 73 = .ok (.bipush 6, 2) := by decide +kernel
theorem dX12_unit_75 : decode cX12_unit 75 = .ok (.if_icmp .le 8, 3) := by decide +kernel
theorem dX12_unit_78 : decode cX12_unit 78 = .ok (.aload_n 0, 1) := by decide +kernel
theorem dX12_unit_79 : decode cX12_unit 79 = .ok (.iconst 2, 1) := by decide +kernel
theorem dX12_unit_80 : decode cX12_unit 80 = .ok (.invokevirtual 234, 3) := by decide +kernel
theorem dX12_unit_83 : decode cX12_unit 83 = .ok (.aload_n 0, 1) := by decide +kernel
theorem dX12_unit_84 : decode cX12_unit 84 = .ok (.invokevirtual 296, 3) := by decide +kernel
theorem dX12_unit_87 : decode cX12_unit 87 = .ok (.aload_n 0, 1) := by decide +kernel
theorem dX12_unit_88 : decode cX12_unit 88 = .ok (.bipush 20, 2) := by decide +kernel
theorem dX12_unit_90 : decode cX12_unit 90 = .ok (.invokevirtual 290, 3) := by decide +kernel
theorem dX12_unit_93 : decode cX12_unit 93 = .ok (.goto (-91), 3) := by decide +kernel
theorem dX12_unit_96 : decode cX12_unit 96 = .ok (.iconst 0, 1) := by decide +kernel
theorem dX12_unit_97 : decode cX12_unit 97 = .ok (.istore_n 1, 1) := by decide +kernel
theorem dX12_unit_98 : decode cX12_unit 98 = .ok (.goto (-96), 3) := by decide +kernel
theorem dX12_unit_101 : decode cX12_unit 101 = .ok (.aload_n 0, 1) := by decide +kernel
theorem dX12_unit_102 : decode cX12_unit 102 = .ok (.getfield 185, 3) := by decide +kernel
theorem dX12_unit_105 : decode cX12_unit 105 = .ok (.ifCond .le 4, 3) := by decide +kernel
theorem dX12_unit_108 : decode cX12_unit 108 = .ok (.return_, 1) := by decide +kernel
theorem dX12_unit_109 : decode cX12_unit 109 = .ok (.aload_n 0, 1) := by decide +kernel
theorem dX12_unit_110 : decode cX12_unit 110 = .ok (.invokevirtual 299, 3) := by decide +kernel
theorem dX12_unit_113 : decode cX12_unit 113 = .ok (.istore_n 2, 1) := by decide +kernel
theorem dX12_unit_114 : decode cX12_unit 114 = .ok (.aload_n 0, 1) := by decide +kernel
theorem dX12_unit_115 : decode cX12_unit 115 = .ok (.getfield 172, 3) := by decide +kernel
theorem dX12_unit_118 : decode cX12_unit 118 = .ok (.iconst 2, 1) := by decide +kernel
theorem dX12_unit_119 : decode cX12_unit 119 = .ok (.if_icmp .eq 7, 3) := by decide +kernel
theorem dX12_unit_122 : decode cX12_unit 122 = .ok (.iload_n 2, 1) := by decide +kernel
theorem dX12_unit_123 : decode cX12_unit 123 = .ok (.ifCond .lt 10, 3) := by decide +kernel
theorem dX12_unit_126 : decode cX12_unit 126 = .ok (.aload_n 0, 1) := by decide +kernel
theorem dX12_unit_127 : decode cX12_unit 127 = .ok (.invokevirtual 293, 3) := by decide +kernel
theorem dX12_unit_130 : decode cX12_unit 130 = .ok (.ifCond .eq 8, 3) := by decide +kernel
theorem dX12_unit_133 : decode cX12_unit 133 = .ok (.aload_n 0, 1) := by decide +kernel
theorem dX12_unit_134 : decode cX12_unit 134 = .ok (.iconst 2, 1) := by decide +kernel
theorem dX12_unit_135 : decode cX12_unit 135 = .ok (.invokevirtual 234, 3) := by decide +kernel
theorem dX12_unit_138 : decode cX12_unit 138 = .ok (.aload_n 0, 1) := by decide +kernel
theorem dX12_unit_139 : decode cX12_unit 139 = .ok (.getfield 185, 3) := by decide +kernel
theorem dX12_unit_142 : decode cX12_unit 142 = .ok (.ifCond .le 4, 3) := by decide +kernel
theorem dX12_unit_145 : decode cX12_unit 145 = .ok (.return_, 1) := by decide +kernel
theorem dX12_unit_146 : decode cX12_unit 146 = .ok (.aload_n 0, 1) := by decide +kernel
theorem dX12_unit_147 : decode cX12_unit 147 = .ok (.invokevirtual 296, 3) := by decide +kernel
theorem dX12_unit_150 : decode cX12_unit 150 = .ok (.aload_n 0, 1) := by decide +kernel
theorem dX12_unit_151 : decode cX12_unit 151 = .ok (.iload_n 2, 1) := by decide +kernel
theorem dX12_unit_152 : decode cX12_unit 152 = .ok (.ifCond .ge 7, 3) := by decide +kernel
theorem dX12_unit_155 : decode cX12_unit 155 = .ok (.iconst 0, 1) := by decide +kernel
theorem dX12_unit_156 : decode cX12_unit 156 = .ok (.goto 4, 3) := by decide +kernel
theorem dX12_unit_159 : decode cX12_unit 159 = .ok (.iconst 1, 1) := by decide +kernel
theorem dX12_unit_160 : decode cX12_unit 160 = .ok (.iload_n 2, 1) := by decide +kernel
theorem dX12_unit_161 : decode cX12_unit 161 = .ok (.ifCond .ge 10, 3) := by decide +kernel
theorem dX12_unit_164 : decode cX12_unit 164 = .ok (.aload_n 0, 1) := by decide +kernel
theorem dX12_unit_165 : decode cX12_unit 165 = .ok (.getfield 169, 3) := by decide +kernel
theorem dX12_unit_168 : decode cX12_unit 168 = .ok (.goto 4, 3) := by decide +kernel
theorem dX12_unit_171 : decode cX12_unit 171 = .ok (.iload_n 2, 1) := by decide +kernel
theorem dX12_unit_172 : decode cX12_unit 172 = .ok (.invokevirtual 274, 3) := by decide +kernel
theorem dX12_unit_175 : decode cX12_unit 175 = .ok (.aload_n 0, 1) := by decide +kernel
theorem dX12_unit_176 : decode cX12_unit 176 = .ok (.invokevirtual 237, 3) := by decide +kernel
theorem dX12_unit_179 : decode cX12_unit 179 = .ok (.return_, 1) := by decide +kernel
theorem dX12_sign_0 : decode cX12_sign 0 = .ok (.aload_n 0, 1) := by decide +kernel
theorem dX12_sign_1 : decode cX12_sign 1 = .ok (.ldc2_w 220, 3) := by decide +kernel
theorem dX12_sign_4 : decode cX12_sign 4 = .ok (.invokevirtual 230, 3) := by decide +kernel
theorem dX12_sign_7 : decode cX12_sign 7 = .ok (.ifCond .eq 6, 3) := by decide +kernel
theorem dX12_sign_10 : decode cX12_sign 10 = .ok (.bipush 38, 2) := by decide +kernel
theorem dX12_sign_12 : decode cX12_sign 12 = .ok (.ireturn, 1) := by decide +kernel
theorem dX12_sign_13 : decode cX12_sign 13 = .ok (.aload_n 0, 1) := by decide +kernel
theorem dX12_sign_14 : decode cX12_sign 14 = .ok (.ldc2_w 222, 3) := by decide +kernel
theorem dX12_sign_17 : decode cX12_sign 17 = .ok (.invokevirtual 230, 3) := by decide +kernel
theorem dX12_sign_20 : decode cX12_sign 20 = .ok (.ifCond .eq 6, 3) := by decide +kernel
theorem dX12_sign_23 : decode cX12_sign 23 = .ok (.bipush 124, 2) := by decide +kernel
theorem dX12_sign_25 : decode cX12_sign 25 = .ok (.ireturn, 1) := by decide +kernel
theorem dX12_sign_26 : decode cX12_sign 26 = .ok (.aload_n 0, 1) := by decide +kernel
theorem dX12_sign_27 : decode cX12_sign 27 = .ok (.getfield 172, 3) := by decide +kernel
theorem dX12_sign_30 : decode cX12_sign 30 = .ok (.bipush 60, 2) := by decide +kernel
theorem dX12_sign_32 : decode cX12_sign 32 = .ok (.if_icmp .eq 66, 3) := by decide +kernel
theorem dX12_sign_35 : decode cX12_sign 35 = .ok (.aload_n 0, 1) := by decide +kernel
theorem dX12_sign_36 : decode cX12_sign 36 = .ok (.getfield 172, 3) := by decide +kernel
theorem dX12_sign_39 : decode cX12_sign 39 = .ok (.bipush 62, 2) := by decide +kernel
theorem dX12_sign_41 : decode cX12_sign 41 = .ok (.if_icmp .eq 57, 3) := by decide +kernel
theorem dX12_sign_44 : decode cX12_sign 44 = .ok (.aload_n 0, 1) := by decide +kernel
theorem dX12_sign_45 : decode cX12_sign 45 = .ok (.getfield 172, 3) := by decide +kernel
theorem dX12_sign_48 : decode cX12_sign 48 = .ok (.bipush 61, 2) := by decide +kernel
theorem dX12_sign_50 : decode cX12_sign 50 = .ok (.if_icmp .eq 48, 3) := by decide +kernel
theorem dX12_sign_53 : decode cX12_sign 53 = .ok (.aload_n 0, 1) := by decide +kernel
theorem dX12_sign_54 : decode cX12_sign 54 = .ok (.getfield 172, 3) := by decide +kernel
theorem dX12_sign_57 : decode cX12_sign 57 = .ok (.bipush 43, 2) := by decide +kernel
theorem dX12_sign_59 : decode cX12_sign 59 = .ok (.if_icmp .eq 39, 3) := by decide +kernel
theorem dX12_sign_62 : decode cX12_sign 62 = .ok (.aload_n 0, 1) := by decide +kernel
theorem dX12_sign_63 : decode cX12_sign 63 = .ok (.getfield 172, 3) := by decide +kernel
theorem dX12_sign_66 : decode cX12_sign 66 = .ok (.bipush 45, 2) := by decide +kernel
theorem dX12_sign_68 : decode cX12_sign 68 = .ok (.if_icmp .eq 30, 3) := by decide +kernel
theorem dX12_sign_71 : decode cX12_sign 71 = .ok (.aload_n 0, 1) := by decide +kernel
theorem dX12_sign_72 : decode cX12_sign 72 = .ok (.getfield 172, 3) := by decide +kernel
theorem dX12_sign_75 : decode cX12_sign 75 = .ok (.bipush 42, 2) := by decide +kernel
theorem dX12_sign_77 : decode cX12_sign 77 = .ok (.if_icmp .eq 21, 3) := by decide +kernel
theorem dX12_sign_80 : decode cX12_sign 80 = .ok (.aload_n 0, 1) := by decide +kernel
theorem dX12_sign_81 : decode cX12_sign 81 = .ok (.getfield 172, 3) := by decide +kernel
theorem dX12_sign_84 : decode cX12_sign 84 = .ok (.bipush 47, 2) := by decide +kernel
theorem dX12_sign_86 : decode cX12_sign 86 = .ok (.if_icmp .eq 12, 3) := by decide +kernel
theorem dX12_sign_89 : decode cX12_sign 89 = .ok (.aload_n 0, 1) := by decide +kernel
theorem dX12_sign_90 : decode cX12_sign 90 = .ok (.getfield 172, 3) := by decide +kernel
theorem dX12_sign_93 : decode cX12_sign 93 = .ok (.bipush 37, 2) := by decide +kernel
theorem dX12_sign_95 : decode cX12_sign 95 = .ok (.if_icmp .ne 10, 3) := by decide +kernel
theorem dX12_sign_98 : decode cX12_sign 98 = .ok (.aload_n 0, 1) := by decide +kernel
theorem dX12_sign_99 : decode cX12_sign 99 = .ok (.getfield 172, 3) := by decide +kernel
theorem dX12_sign_102 : decode cX12_sign 102 = .ok (.goto 4, 3) := by decide +kernel
theorem dX12_sign_105 : decode cX12_sign 105 = .ok (.iconst 0, 1) := by decide +kernel
theorem dX12_sign_106 : decode cX12_sign 106 = .ok (.ireturn, 1) := by decide +kernel
theorem dX12_hasBracket_0 : decode cX12_hasBracket 0 = .ok (.iconst 0, 1) := by decide +kernel
theorem dX12_hasBracket_1 : decode cX12_hasBracket 1 = .ok (.istore_n 1, 1) := by decide +kernel
theorem dX12_hasBracket_2 : decode cX12_hasBracket 2 = .ok (.iconst 0, 1) := by decide +kernel
theorem dX12_hasBracket_3 : decode cX12_hasBracket 3 = .ok (.istore_n 2, 1) := by decide +kernel
theorem dX12_hasBracket_4 : decode cX12_hasBracket 4 = .ok (.iload_n 2, 1) := by decide +kernel
theorem dX12_hasBracket_5 : decode cX12_hasBracket 5 = .ok (.aload_n 0, 1) := by decide +kernel
theorem dX12_hasBracket_6 : decode cX12_hasBracket 6 = .ok (.getfield 268, 3) := by decide +kernel
theorem dX12_hasBracket_9 : decode cX12_hasBracket 9 = .ok (.if_icmp .ge 30, 3) := by decide +kernel
theorem dX12_hasBracket_12 : decode cX12_hasBracket 12 = .ok (.iload_n 1, 1) := by decide +kernel
theorem dX12_hasBracket_13 : decode cX12_hasBracket 13 = .ok (.ifCond .ne 14, 3) := by decide +kernel
theorem dX12_hasBracket_16 : decode cX12_hasBracket 16 = .ok (.aload_n 0, 1) := by decide +kernel
theorem dX12_hasBracket_17 : decode cX12_hasBracket 17 = .ok (.getfield 33, 3) := by decide +kernel
theorem dX12_hasBracket_20 : decode cX12_hasBracket 20 = .ok (.iload_n 2, 1) := by decide +kernel
theorem dX12_hasBracket_21 : decode cX12_hasBracket 21 = .ok (.iaload, 1) := by decide +kernel
theorem dX12_hasBracket_22 : decode cX12_hasBracket 22 = .ok (.bipush 20, 2) := by decide +kernel
theorem dX12_hasBracket_24 : decode cX12_hasBracket 24 = .ok (.if_icmp .ne 7, 3) := by decide +kernel
theorem dX12_hasBracket_27 : decode cX12_hasBracket 27 = .ok (.iconst 1, 1) := by decide +kernel
theorem dX12_hasBracket_28 : decode cX12_hasBracket 28 = .ok (.goto 4, 3) := by decide +kernel
theorem dX12_hasBracket_31 : decode cX12_hasBracket 31 = .ok (.iconst 0, 1) := by decide +kernel
theorem dX12_hasBracket_32 : decode cX12_hasBracket 32 = .ok (.istore_n 1, 1) := by decide +kernel
theorem dX12_hasBracket_33 : decode cX12_hasBracket 33 = .ok (.iinc 2 1, 3) := by decide +kernel
theorem dX12_hasBracket_36 : decode cX12_hasBracket 36 = .ok (.goto (-32), 3) := by decide +kernel
theorem dX12_hasBracket_39 : decode cX12_hasBracket 39 = .ok (.iload_n 1, 1) := by decide +kernel
theorem dX12_hasBracket_40 : decode cX12_hasBracket 40 = .ok (.ireturn, 1) := by decide +kernel
theorem dX12_readWait_0 : decode cX12_readWait 0 = .ok (.aload_n 0, 1) := by decide +kernel
theorem dX12_readWait_1 : decode cX12_readWait 1 = .ok (.invokevirtual 237, 3) := by decide +kernel
theorem dX12_readWait_4 : decode cX12_readWait 4 = .ok (.aload_n 0, 1) := by decide +kernel
theorem dX12_readWait_5 : decode cX12_readWait 5 = .ok (.iconst 0, 1) := by decide +kernel
theorem dX12_readWait_6 : decode cX12_readWait 6 = .ok (.putfield 265, 3) := by decide +kernel
theorem dX12_readWait_9 : decode cX12_readWait 9 = .ok (.aload_n 0, 1) := by decide +kernel
theorem dX12_readWait_10 : decode cX12_readWait 10 = .ok (.iconst 0, 1) := by decide +kernel
theorem dX12_readWait_11 : decode cX12_readWait 11 = .ok (.putfield 268, 3) := by decide +kernel
theorem dX12_readWait_14 : decode cX12_readWait 14 = .ok (.aload_n 0, 1) := by decide +kernel
theorem dX12_readWait_15 : decode cX12_readWait 15 = .ok (.iconst 0, 1) := by decide +kernel
theorem dX12_readWait_16 : decode cX12_readWait 16 = .ok (.putfield 278, 3) := by decide +kernel
theorem dX12_readWait_19 : decode cX12_readWait 19 = .ok (.aload_n 0, 1) := by decide +kernel
theorem dX12_readWait_20 : decode cX12_readWait 20 = .ok (.iconst 0, 1) := by decide +kernel
theorem dX12_readWait_21 : decode cX12_readWait 21 = .ok (.putfield 284, 3) := by decide +kernel
theorem dX12_readWait_24 : decode cX12_readWait 24 = .ok (.aload_n 0, 1) := by decide +kernel
theorem dX12_readWait_25 : decode cX12_readWait 25 = .ok (.invokevirtual 302, 3) := by decide +kernel
theorem dX12_readWait_28 : decode cX12_readWait 28 = .ok (.iconst 1, 1) := by decide +kernel
theorem dX12_readWait_29 : decode cX12_readWait 29 = .ok (.istore_n 1, 1) := by decide +kernel
theorem dX12_readWait_30 : decode cX12_readWait 30 = .ok (.iload_n 1, 1) := by decide +kernel
theorem dX12_readWait_31 : decode cX12_readWait 31 = .ok (.ifCond .eq 126, 3) := by decide +kernel
theorem dX12_readWait_34 : decode cX12_readWait 34 = .ok (.aload_n 0, 1) := by decide +kernel
theorem dX12_readWait_35 : decode cX12_readWait 35 = .ok (.getfield 185, 3) := by decide +kernel
theorem dX12_readWait_38 : decode cX12_readWait 38 = .ok (.ifCond .ne 119, 3) := by decide +kernel
theorem dX12_readWait_41 : decode cX12_readWait 41 = .ok (.aload_n 0, 1) := by decide +kernel
theorem dX12_readWait_42 : decode cX12_readWait 42 = .ok (.invokevirtual 305, 3) := by decide +kernel
theorem dX12_readWait_45 : decode cX12_readWait 45 = .ok (.istore_n 2, 1) := by decide +kernel
theorem dX12_readWait_46 : decode cX12_readWait 46 = .ok (.aload_n 0, 1) := by decide +kernel
theorem dX12_readWait_47 : decode cX12_readWait 47 = .ok (.getfield 172, 3) := by decide +kernel
theorem dX12_readWait_50 : decode cX12_readWait 50 = .ok (.bipush 41, 2) := by decide +kernel
theorem dX12_readWait_52 : decode cX12_readWait 52 = .ok (.if_icmp .ne 42, 3) := by decide +kernel
theorem dX12_readWait_55 : decode cX12_readWait 55 = .ok (.aload_n 0, 1) := by decide +kernel
theorem dX12_readWait_56 : decode cX12_readWait 56 = .ok (.invokevirtual 308, 3) := by decide +kernel
theorem dX12_readWait_59 : decode cX12_readWait 59 = .ok (.ifCond .eq 35, 3) := by decide +kernel
theorem dX12_readWait_62 : decode cX12_readWait 62 = .ok (.aload_n 0, 1) := by decide +kernel
theorem dX12_readWait_63 : decode cX12_readWait 63 = .ok (.iconst 0, 1) := by decide +kernel
theorem dX12_readWait_64 : decode cX12_readWait 64 = .ok (.invokevirtual 311, 3) := by decide +kernel
theorem dX12_readWait_67 : decode cX12_readWait 67 = .ok (.aload_n 0, 1) := by decide +kernel
theorem dX12_readWait_68 : decode cX12_readWait 68 = .ok (.dup, 1) := by decide +kernel
theorem dX12_readWait_69 : decode cX12_readWait 69 = .ok (.getfield 268, 3) := by decide +kernel
theorem dX12_readWait_72 : decode cX12_readWait 72 = .ok (.iconst 1, 1) := by decide +kernel
theorem dX12_readWait_73 : decode cX12_readWait 73 = .ok (.isub, 1) := by decide +kernel
theorem dX12_readWait_74 : decode cX12_readWait 74 = .ok (.putfield 268, 3) := by decide +kernel
theorem dX12_readWait_77 : decode cX12_readWait 77 = .ok (.aload_n 0, 1) := by decide +kernel
theorem dX12_readWait_78 : decode cX12_readWait 78 = .ok (.dup, 1) := by decide +kernel
theorem dX12_readWait_79 : decode cX12_readWait 79 = .ok (.getfield 278, 3) := by decide +kernel
theorem dX12_readWait_82 : decode cX12_readWait 82 = .ok (.iconst 1, 1) := by decide +kernel
theorem dX12_readWait_83 : decode cX12_readWait 83 = .ok (.isub, 1) := by decide +kernel
theorem dX12_readWait_84 : decode cX12_readWait 84 = .ok (.putfield 278, 3) := by decide +kernel
theorem dX12_readWait_87 : decode cX12_readWait 87 = .ok (.aload_n 0, 1) := by decide +kernel
theorem dX12_readWait_88 : decode cX12_readWait 88 = .ok (.invokevirtual 237, 3) := by decide +kernel
theorem dX12_readWait_91 : decode cX12_readWait 91 = .ok (.goto 63, 3) := by decide +kernel
theorem dX12_readWait_94 : decode cX12_readWait 94 = .ok (.iload_n 2, 1) := by decide +kernel
theorem dX12_readWait_95 : decode cX12_readWait 95 = .ok (.ifCond .eq 57, 3) := by decide +kernel
theorem dX12_readWait_98 : decode cX12_readWait 98 = .ok (.iload_n 2, 1) := by decide +kernel
theorem dX12_readWait_99 : decode cX12_readWait 99 = .ok (.invokestatic 271, 3) := by decide +kernel
theorem dX12_readWait_102 : decode cX12_readWait 102 = .ok (.iconst 4, 1) := by decide +kernel
theorem dX12_readWait_103 : decode cX12_readWait 103 = .ok (.if_icmp .ne 10, 3) := by decide +kernel
theorem dX12_readWait_106 : decode cX12_readWait 106 = .ok (.aload_n 0, 1) := by decide +kernel
theorem dX12_readWait_107 : decode cX12_readWait 107 = .ok (.invokevirtual 314, 3) := by decide +kernel
theorem dX12_readWait_110 : decode cX12_readWait 110 = .ok (.ifCond .ne 42, 3) := by decide +kernel
theorem dX12_readWait_113 : decode cX12_readWait 113 = .ok (.aload_n 0, 1) := by decide +kernel
theorem dX12_readWait_114 : decode cX12_readWait 114 = .ok (.iload_n 2, 1) := by decide +kernel
theorem dX12_readWait_115 : decode cX12_readWait 115 = .ok (.invokestatic 271, 3) := by decide +kernel
theorem dX12_readWait_118 : decode cX12_readWait 118 = .ok (.invokevirtual 311, 3) := by decide +kernel
theorem dX12_readWait_121 : decode cX12_readWait 121 = .ok (.aload_n 0, 1) := by decide +kernel
theorem dX12_readWait_122 : decode cX12_readWait 122 = .ok (.getfield 33, 3) := by decide +kernel
theorem dX12_readWait_125 : decode cX12_readWait 125 = .ok (.aload_n 0, 1) := by decide +kernel
theorem dX12_readWait_126 : decode cX12_readWait 126 = .ok (.getfield 268, 3) := by decide +kernel
theorem dX12_readWait_129 : decode cX12_readWait 129 = .ok (.iload_n 2, 1) := by decide +kernel
theorem dX12_readWait_130 : decode cX12_readWait 130 = .ok (.iastore, 1) := by decide +kernel
theorem dX12_readWait_131 : decode cX12_readWait 131 = .ok (.aload_n 0, 1) := by decide +kernel
theorem dX12_readWait_132 : decode cX12_readWait 132 = .ok (.dup, 1) := by decide +kernel
theorem dX12_readWait_133 : decode cX12_readWait 133 = .ok (.getfield 268, 3) := by decide +kernel
theorem dX12_readWait_136 : decode cX12_readWait 136 = .ok (.iconst 1, 1) := by decide +kernel
theorem dX12_readWait_137 : decode cX12_readWait 137 = .ok (.iadd, 1) := by decide +kernel
theorem dX12_readWait_138 : decode cX12_readWait 138 = .ok (.putfield 268, 3) := by decide +kernel
theorem dX12_readWait_141 : decode cX12_readWait 141 = .ok (.aload_n 0, 1) := by decide +kernel
theorem dX12_readWait_142 : decode cX12_readWait 142 = .ok (.invokevirtual 237, 3) := by decide +kernel
theorem dX12_readWait_145 : decode cX12_readWait 145 = .ok (.aload_n 0, 1) := by decide +kernel
theorem dX12_readWait_146 : decode cX12_readWait 146 = .ok (.invokevirtual 302, 3) := by decide +kernel
theorem dX12_readWait_149 : decode cX12_readWait 149 = .ok (.goto 5, 3) := by decide +kernel
theorem dX12_readWait_152 : decode cX12_readWait 152 = .ok (.iconst 0, 1) := by decide +kernel
theorem dX12_readWait_153 : decode cX12_readWait 153 = .ok (.istore_n 1, 1) := by decide +kernel
theorem dX12_readWait_154 : decode cX12_readWait 154 = .ok (.goto (-124), 3) := by decide +kernel
theorem dX12_readWait_157 : decode cX12_readWait 157 = .ok (.aload_n 0, 1) := by decide +kernel
theorem dX12_readWait_158 : decode cX12_readWait 158 = .ok (.getfield 185, 3) := by decide +kernel
theorem dX12_readWait_161 : decode cX12_readWait 161 = .ok (.ifCond .ne 15, 3) := by decide +kernel
theorem dX12_readWait_164 : decode cX12_readWait 164 = .ok (.aload_n 0, 1) := by decide +kernel
theorem dX12_readWait_165 : decode cX12_readWait 165 = .ok (.invokevirtual 308, 3) := by decide +kernel
theorem dX12_readWait_168 : decode cX12_readWait 168 = .ok (.ifCond .eq 8, 3) := by decide +kernel
theorem dX12_readWait_171 : decode cX12_readWait 171 = .ok (.aload_n 0, 1) := by decide +kernel
theorem dX12_readWait_172 : decode cX12_readWait 172 = .ok (.iconst 2, 1) := by decide +kernel
theorem dX12_readWait_173 : decode cX12_readWait 173 = .ok (.invokevirtual 234, 3) := by decide +kernel
theorem dX12_readWait_176 : decode cX12_readWait 176 = .ok (.aload_n 0, 1) := by decide +kernel
theorem dX12_readWait_177 : decode cX12_readWait 177 = .ok (.getfield 185, 3) := by decide +kernel
theorem dX12_readWait_180 : decode cX12_readWait 180 = .ok (.ifCond .ne 8, 3) := by decide +kernel
theorem dX12_readWait_183 : decode cX12_readWait 183 = .ok (.aload_n 0, 1) := by decide +kernel
theorem dX12_readWait_184 : decode cX12_readWait 184 = .ok (.iconst 0, 1) := by decide +kernel
theorem dX12_readWait_185 : decode cX12_readWait 185 = .ok (.invokevirtual 311, 3) := by decide +kernel
theorem dX12_readWait_188 : decode cX12_readWait 188 = .ok (.return_, 1) := by decide +kernel
theorem dX12_truth_0 : decode cX12_truth 0 = .ok (.iload_n 0, 1) := by decide +kernel
theorem dX12_truth_1 : decode cX12_truth 1 = .ok (.ifCond .eq 7, 3) := by decide +kernel
theorem dX12_truth_4 : decode cX12_truth 4 = .ok (.iconst 1, 1) := by decide +kernel
theorem dX12_truth_5 : decode cX12_truth 5 = .ok (.goto 4, 3) := by decide +kernel
theorem dX12_truth_8 : decode cX12_truth 8 = .ok (.iconst 0, 1) := by decide +kernel
theorem dX12_truth_9 : decode cX12_truth 9 = .ok (.ireturn, 1) := by decide +kernel
theorem dX12_done_0 : decode cX12_done 0 = .ok (.iload_n 0, 1) := by decide +kernel
theorem dX12_done_1 : decode cX12_done 1 = .ok (.tableswitch 214 37 62 #[143, 197, 214, 214, 214, 127, 119, 214, 123, 214, 131, 214, 214, 214, 214, 214, 214, 214, 214, 214, 214, 214, 214, 155, 183, 169], 119) := by decide +kernel
theorem dX12_done_120 : decode cX12_done 120 = .ok (.iload_n 1, 1) := by decide +kernel
theorem dX12_done_121 : decode cX12_done 121 = .ok (.iload_n 2, 1) := by decide +kernel
theorem dX12_done_122 : decode cX12_done 122 = .ok (.iadd, 1) := by decide +kernel
theorem dX12_done_123 : decode cX12_done 123 = .ok (.ireturn, 1) := by decide +kernel
theorem dX12_done_124 : decode cX12_done 124 = .ok (.iload_n 1, 1) := by decide +kernel
theorem dX12_done_125 : decode cX12_done 125 = .ok (.iload_n 2, 1) := by decide +kernel
theorem dX12_done_126 : decode cX12_done 126 = .ok (.isub, 1) := by decide +kernel
theorem dX12_done_127 : decode cX12_done 127 = .ok (.ireturn, 1) := by decide +kernel
theorem dX12_done_128 : decode cX12_done 128 = .ok (.iload_n 1, 1) := by decide +kernel
theorem dX12_done_129 : decode cX12_done 129 = .ok (.iload_n 2, 1) := by decide +kernel
theorem dX12_done_130 : decode cX12_done 130 = .ok (.imul, 1) := by decide +kernel
theorem dX12_done_131 : decode cX12_done 131 = .ok (.ireturn, 1) := by decide +kernel
theorem dX12_done_132 : decode cX12_done 132 = .ok (.iload_n 2, 1) := by decide +kernel
theorem dX12_done_133 : decode cX12_done 133 = .ok (.ifCond .ne 7, 3) := by decide +kernel
theorem dX12_done_136 : decode cX12_done 136 = .ok (.iconst 0, 1) := by decide +kernel
theorem dX12_done_137 : decode cX12_done 137 = .ok (.goto 6, 3) := by decide +kernel
theorem dX12_done_140 : decode cX12_done 140 = .ok (.iload_n 1, 1) := by decide +kernel
theorem dX12_done_141 : decode cX12_done 141 = .ok (.iload_n 2, 1) := by decide +kernel
theorem dX12_done_142 : decode cX12_done 142 = .ok (.idiv, 1) := by decide +kernel
theorem dX12_done_143 : decode cX12_done 143 = .ok (.ireturn, 1) := by decide +kernel
theorem dX12_done_144 : decode cX12_done 144 = .ok (.iload_n 2, 1) := by decide +kernel
theorem dX12_done_145 : decode cX12_done 145 = .ok (.ifCond .ne 7, 3) := by decide +kernel
theorem dX12_done_148 : decode cX12_done 148 = .ok (.iconst 0, 1) := by decide +kernel
theorem dX12_done_149 : decode cX12_done 149 = .ok (.goto 6, 3) := by decide +kernel
theorem dX12_done_152 : decode cX12_done 152 = .ok (.iload_n 1, 1) := by decide +kernel
theorem dX12_done_153 : decode cX12_done 153 = .ok (.iload_n 2, 1) := by decide +kernel
theorem dX12_done_154 : decode cX12_done 154 = .ok (.irem, 1) := by decide +kernel
theorem dX12_done_155 : decode cX12_done 155 = .ok (.ireturn, 1) := by decide +kernel
theorem dX12_done_156 : decode cX12_done 156 = .ok (.iload_n 1, 1) := by decide +kernel
theorem dX12_done_157 : decode cX12_done 157 = .ok (.iload_n 2, 1) := by decide +kernel
theorem dX12_done_158 : decode cX12_done 158 = .ok (.if_icmp .ge 7, 3) := by decide +kernel
theorem dX12_done_161 : decode cX12_done 161 = .ok (.iconst 1, 1) := by decide +kernel
theorem dX12_done_162 : decode cX12_done 162 = .ok (.goto 4, 3) := by decide +kernel
theorem dX12_done_165 : decode cX12_done 165 = .ok (.iconst 0, 1) := by decide +kernel
theorem dX12_done_166 : decode cX12_done 166 = .ok (.invokestatic 317, 3) := by decide +kernel
theorem dX12_done_169 : decode cX12_done 169 = .ok (.ireturn, 1) := by decide +kernel
theorem dX12_done_170 : decode cX12_done 170 = .ok (.iload_n 1, 1) := by decide +kernel
theorem dX12_done_171 : decode cX12_done 171 = .ok (.iload_n 2, 1) := by decide +kernel
theorem dX12_done_172 : decode cX12_done 172 = .ok (.if_icmp .le 7, 3) := by decide +kernel
theorem dX12_done_175 : decode cX12_done 175 = .ok (.iconst 1, 1) := by decide +kernel
theorem dX12_done_176 : decode cX12_done 176 = .ok (.goto 4, 3) := by decide +kernel
theorem dX12_done_179 : decode cX12_done 179 = .ok (.iconst 0, 1) := by decide +kernel
theorem dX12_done_180 : decode cX12_done 180 = .ok (.invokestatic 317, 3) := by decide +kernel
theorem dX12_done_183 : decode cX12_done 183 = .ok (.ireturn, 1) := by decide +kernel
theorem dX12_done_184 : decode cX12_done 184 = .ok (.iload_n 1, 1) := by decide +kernel
theorem dX12_done_185 : decode cX12_done 185 = .ok (.iload_n 2, 1) := by decide +kernel
theorem dX12_done_186 : decode cX12_done 186 = .ok (.if_icmp .ne 7, 3) := by decide +kernel
theorem dX12_done_189 : decode cX12_done 189 = .ok (.iconst 1, 1) := by decide +kernel
theorem dX12_done_190 : decode cX12_done 190 = .ok (.goto 4, 3) := by decide +kernel
theorem dX12_done_193 : decode cX12_done 193 = .ok (.iconst 0, 1) := by decide +kernel
theorem dX12_done_194 : decode cX12_done 194 = .ok (.invokestatic 317, 3) := by decide +kernel
theorem dX12_done_197 : decode cX12_done 197 = .ok (.ireturn, 1) := by decide +kernel
theorem dX12_done_198 : decode cX12_done 198 = .ok (.iload_n 1, 1) := by decide +kernel
theorem dX12_done_199 : decode cX12_done 199 = .ok (.ifCond .eq 11, 3) := by decide +kernel
theorem dX12_done_202 : decode cX12_done 202 = .ok (.iload_n 2, 1) := by decide +kernel
theorem dX12_done_203 : decode cX12_done 203 = .ok (.ifCond .eq 7, 3) := by decide +kernel
theorem dX12_done_206 : decode cX12_done 206 = .ok (.iconst 1, 1) := by decide +kernel
theorem dX12_done_207 : decode cX12_done 207 = .ok (.goto 4, 3) := by decide +kernel
theorem dX12_done_210 : decode cX12_done 210 = .ok (.iconst 0, 1) := by decide +kernel
theorem dX12_done_211 : decode cX12_done 211 = .ok (.invokestatic 317, 3) := by decide +kernel
theorem dX12_done_214 : decode cX12_done 214 = .ok (.ireturn, 1) := by decide +kernel
theorem dX12_done_215 : decode cX12_done 215 = .ok (.iload_n 1, 1) := by decide +kernel
theorem dX12_done_216 : decode cX12_done 216 = .ok (.ifCond .ne 7, 3) := by decide +kernel
theorem dX12_done_219 : decode cX12_done 219 = .ok (.iload_n 2, 1) := by decide +kernel
theorem dX12_done_220 : decode cX12_done 220 = .ok (.ifCond .eq 7, 3) := by decide +kernel
theorem dX12_done_223 : decode cX12_done 223 = .ok (.iconst 1, 1) := by decide +kernel
theorem dX12_done_224 : decode cX12_done 224 = .ok (.goto 4, 3) := by decide +kernel
theorem dX12_done_227 : decode cX12_done 227 = .ok (.iconst 0, 1) := by decide +kernel
theorem dX12_done_228 : decode cX12_done 228 = .ok (.invokestatic 317, 3) := by decide +kernel
theorem dX12_done_231 : decode cX12_done 231 = .ok (.ireturn, 1) := by decide +kernel
theorem dX12_waitHere_0 : decode cX12_waitHere 0 = .ok (.aload_n 0, 1) := by decide +kernel
theorem dX12_waitHere_1 : decode cX12_waitHere 1 = .ok (.getfield 321, 3) := by decide +kernel
theorem dX12_waitHere_4 : decode cX12_waitHere 4 = .ok (.ifCond .ne 5, 3) := by decide +kernel
theorem dX12_waitHere_7 : decode cX12_waitHere 7 = .ok (.iconst 0, 1) := by decide +kernel
theorem dX12_waitHere_8 : decode cX12_waitHere 8 = .ok (.ireturn, 1) := by decide +kernel
theorem dX12_waitHere_9 : decode cX12_waitHere 9 = .ok (.iconst 0, 1) := by decide +kernel
theorem dX12_waitHere_10 : decode cX12_waitHere 10 = .ok (.istore_n 1, 1) := by decide +kernel
theorem dX12_waitHere_11 : decode cX12_waitHere 11 = .ok (.iconst 0, 1) := by decide +kernel
theorem dX12_waitHere_12 : decode cX12_waitHere 12 = .ok (.istore_n 2, 1) := by decide +kernel
theorem dX12_waitHere_13 : decode cX12_waitHere 13 = .ok (.iload_n 2, 1) := by decide +kernel
theorem dX12_waitHere_14 : decode cX12_waitHere 14 = .ok (.aload_n 0, 1) := by decide +kernel
theorem dX12_waitHere_15 : decode cX12_waitHere 15 = .ok (.getfield 325, 3) := by decide +kernel
theorem dX12_waitHere_18 : decode cX12_waitHere 18 = .ok (.if_icmp .ge 143, 3) := by decide +kernel
theorem dX12_waitHere_21 : decode cX12_waitHere 21 = .ok (.aload_n 0, 1) := by decide +kernel
theorem dX12_waitHere_22 : decode cX12_waitHere 22 = .ok (.getfield 27, 3) := by decide +kernel
theorem dX12_waitHere_25 : decode cX12_waitHere 25 = .ok (.iload_n 2, 1) := by decide +kernel
theorem dX12_waitHere_26 : decode cX12_waitHere 26 = .ok (.iaload, 1) := by decide +kernel
theorem dX12_waitHere_27 : decode cX12_waitHere 27 = .ok (.ifCond .eq 13, 3) := by decide +kernel
theorem dX12_waitHere_30 : decode cX12_waitHere 30 = .ok (.aload_n 0, 1) := by decide +kernel
theorem dX12_waitHere_31 : decode cX12_waitHere 31 = .ok (.getfield 27, 3) := by decide +kernel
theorem dX12_waitHere_34 : decode cX12_waitHere 34 = .ok (.iload_n 2, 1) := by decide +kernel
theorem dX12_waitHere_35 : decode cX12_waitHere 35 = .ok (.iaload, 1) := by decide +kernel
theorem dX12_waitHere_36 : decode cX12_waitHere 36 = .ok (.iconst 1, 1) := by decide +kernel
theorem dX12_waitHere_37 : decode cX12_waitHere 37 = .ok (.if_icmp .ne 44, 3) := by decide +kernel
theorem dX12_waitHere_40 : decode cX12_waitHere 40 = .ok (.aload_n 0, 1) := by decide +kernel
theorem dX12_waitHere_41 : decode cX12_waitHere 41 = .ok (.getfield 36, 3) := by decide +kernel
theorem dX12_waitHere_44 : decode cX12_waitHere 44 = .ok (.iload_n 1, 1) := by decide +kernel
theorem dX12_waitHere_45 : decode cX12_waitHere 45 = .ok (.aload_n 0, 1) := by decide +kernel
theorem dX12_waitHere_46 : decode cX12_waitHere 46 = .ok (.getfield 27, 3) := by decide +kernel
theorem dX12_waitHere_49 : decode cX12_waitHere 49 = .ok (.iload_n 2, 1) := by decide +kernel
theorem dX12_waitHere_50 : decode cX12_waitHere 50 = .ok (.iaload, 1) := by decide +kernel
theorem dX12_waitHere_51 : decode cX12_waitHere 51 = .ok (.ifCond .ne 12, 3) := by decide +kernel
theorem dX12_waitHere_54 : decode cX12_waitHere 54 = .ok (.aload_n 0, 1) := by decide +kernel
theorem dX12_waitHere_55 : decode cX12_waitHere 55 = .ok (.getfield 30, 3) := by decide +kernel
theorem dX12_waitHere_58 : decode cX12_waitHere 58 = .ok (.iload_n 2, 1) := by decide +kernel
theorem dX12_waitHere_59 : decode cX12_waitHere 59 = .ok (.iaload, 1) := by decide +kernel
theorem dX12_waitHere_60 : decode cX12_waitHere 60 = .ok (.goto 14, 3) := by decide +kernel
theorem dX12_waitHere_63 : decode cX12_waitHere 63 = .ok (.aload_n 0, 1) := by decide +kernel
theorem dX12_waitHere_64 : decode cX12_waitHere 64 = .ok (.getfield 39, 3) := by decide +kernel
theorem dX12_waitHere_67 : decode cX12_waitHere 67 = .ok (.aload_n 0, 1) := by decide +kernel
theorem dX12_waitHere_68 : decode cX12_waitHere 68 = .ok (.getfield 30, 3) := by decide +kernel
theorem dX12_waitHere_71 : decode cX12_waitHere 71 = .ok (.iload_n 2, 1) := by decide +kernel
theorem dX12_waitHere_72 : decode cX12_waitHere 72 = .ok (.iaload, 1) := by decide +kernel
theorem dX12_waitHere_73 : decode cX12_waitHere 73 = .ok (.iaload, 1) := by decide +kernel
theorem dX12_waitHere_74 : decode cX12_waitHere 74 = .ok (.iastore, 1) := by decide +kernel
theorem dX12_waitHere_75 : decode cX12_waitHere 75 = .ok (.iinc 1 1, 3) := by decide +kernel
theorem dX12_waitHere_78 : decode cX12_waitHere 78 = .ok (.goto 77, 3) := by decide +kernel
theorem dX12_waitHere_81 : decode cX12_waitHere 81 = .ok (.aload_n 0, 1) := by decide +kernel
theorem dX12_waitHere_82 : decode cX12_waitHere 82 = .ok (.getfield 27, 3) := by decide +kernel
theorem dX12_waitHere_85 : decode cX12_waitHere 85 = .ok (.iload_n 2, 1) := by decide +kernel
theorem dX12_waitHere_86 : decode cX12_waitHere 86 = .ok (.iaload, 1) := by decide +kernel
theorem dX12_waitHere_87 : decode cX12_waitHere 87 = .ok (.iconst 2, 1) := by decide +kernel
theorem dX12_waitHere_88 : decode cX12_waitHere 88 = .ok (.if_icmp .ne 33, 3) := by decide +kernel
theorem dX12_waitHere_91 : decode cX12_waitHere 91 = .ok (.aload_n 0, 1) := by decide +kernel
theorem dX12_waitHere_92 : decode cX12_waitHere 92 = .ok (.getfield 36, 3) := by decide +kernel
theorem dX12_waitHere_95 : decode cX12_waitHere 95 = .ok (.iload_n 1, 1) := by decide +kernel
theorem dX12_waitHere_96 : decode cX12_waitHere 96 = .ok (.iconst 1, 1) := by decide +kernel
theorem dX12_waitHere_97 : decode cX12_waitHere 97 = .ok (.isub, 1) := by decide +kernel
theorem dX12_waitHere_98 : decode cX12_waitHere 98 = .ok (.aload_n 0, 1) := by decide +kernel
theorem dX12_waitHere_99 : decode cX12_waitHere 99 = .ok (.getfield 36, 3) := by decide +kernel
theorem dX12_waitHere_102 : decode cX12_waitHere 102 = .ok (.iload_n 1, 1) := by decide +kernel
theorem dX12_waitHere_103 : decode cX12_waitHere 103 = .ok (.iconst 1, 1) := by decide +kernel
theorem dX12_waitHere_104 : decode cX12_waitHere 104 = .ok (.isub, 1) := by decide +kernel
theorem dX12_waitHere_105 : decode cX12_waitHere 105 = .ok (.iaload, 1) := by decide +kernel
theorem dX12_waitHere_106 : decode cX12_waitHere 106 = .ok (.ifCond .ne 7, 3) := by decide +kernel
theorem dX12_waitHere_109 : decode cX12_waitHere 109 = .ok (.iconst 1, 1) := by decide +kernel
theorem dX12_waitHere_110 : decode cX12_waitHere 110 = .ok (.goto 4, 3) := by decide +kernel
theorem dX12_waitHere_113 : decode cX12_waitHere 113 = .ok (.iconst 0, 1) := by decide +kernel
theorem dX12_waitHere_114 : decode cX12_waitHere 114 = .ok (.invokestatic 317, 3) := by decide +kernel
theorem dX12_waitHere_117 : decode cX12_waitHere 117 = .ok (.iastore, 1) := by decide +kernel
theorem dX12_waitHere_118 : decode cX12_waitHere 118 = .ok (.goto 37, 3) := by decide +kernel
theorem dX12_waitHere_121 : decode cX12_waitHere 121 = .ok (.iinc 1 (-1), 3) := by decide +kernel
theorem dX12_waitHere_124 : decode cX12_waitHere 124 = .ok (.aload_n 0, 1) := by decide +kernel
theorem dX12_waitHere_125 : decode cX12_waitHere 125 = .ok (.getfield 36, 3) := by decide +kernel
theorem dX12_waitHere_128 : decode cX12_waitHere 128 = .ok (.iload_n 1, 1) := by decide +kernel
theorem dX12_waitHere_129 : decode cX12_waitHere 129 = .ok (.iconst 1, 1) := by decide +kernel
theorem dX12_waitHere_130 : decode cX12_waitHere 130 = .ok (.isub, 1) := by decide +kernel
theorem dX12_waitHere_131 : decode cX12_waitHere 131 = .ok (.aload_n 0, 1) := by decide +kernel
theorem dX12_waitHere_132 : decode cX12_waitHere 132 = .ok (.getfield 30, 3) := by decide +kernel
theorem dX12_waitHere_135 : decode cX12_waitHere 135 = .ok (.iload_n 2, 1) := by decide +kernel
theorem dX12_waitHere_136 : decode cX12_waitHere 136 = .ok (.iaload, 1) := by decide +kernel
theorem dX12_waitHere_137 : decode cX12_waitHere 137 = .ok (.aload_n 0, 1) := by decide +kernel
theorem dX12_waitHere_138 : decode cX12_waitHere 138 = .ok (.getfield 36, 3) := by decide +kernel
theorem dX12_waitHere_141 : decode cX12_waitHere 141 = .ok (.iload_n 1, 1) := by decide +kernel
theorem dX12_waitHere_142 : decode cX12_waitHere 142 = .ok (.iconst 1, 1) := by decide +kernel
theorem dX12_waitHere_143 : decode cX12_waitHere 143 = .ok (.isub, 1) := by decide +kernel
theorem dX12_waitHere_144 : decode cX12_waitHere 144 = .ok (.iaload, 1) := by decide +kernel
theorem dX12_waitHere_145 : decode cX12_waitHere 145 = .ok (.aload_n 0, 1) := by decide +kernel
theorem dX12_waitHere_146 : decode cX12_waitHere 146 = .ok (.getfield 36, 3) := by decide +kernel
theorem dX12_waitHere_149 : decode cX12_waitHere 149 = .ok (.iload_n 1, 1) := by decide +kernel
theorem dX12_waitHere_150 : decode cX12_waitHere 150 = .ok (.iaload, 1) := by decide +kernel
theorem dX12_waitHere_151 : decode cX12_waitHere 151 = .ok (.invokestatic 328, 3) := by decide +kernel
theorem dX12_waitHere_154 : decode cX12_waitHere 154 = .ok (.iastore, 1) := by decide +kernel
theorem dX12_waitHere_155 : decode cX12_waitHere 155 = .ok (.iinc 2 1, 3) := by decide +kernel
theorem dX12_waitHere_158 : decode cX12_waitHere 158 = .ok (.goto (-145), 3) := by decide +kernel
theorem dX12_waitHere_161 : decode cX12_waitHere 161 = .ok (.aload_n 0, 1) := by decide +kernel
theorem dX12_waitHere_162 : decode cX12_waitHere 162 = .ok (.getfield 36, 3) := by decide +kernel
theorem dX12_waitHere_165 : decode cX12_waitHere 165 = .ok (.iconst 0, 1) := by decide +kernel
theorem dX12_waitHere_166 : decode cX12_waitHere 166 = .ok (.iaload, 1) := by decide +kernel
theorem dX12_waitHere_167 : decode cX12_waitHere 167 = .ok (.ifCond .ge 7, 3) := by decide +kernel
theorem dX12_waitHere_170 : decode cX12_waitHere 170 = .ok (.iconst 0, 1) := by decide +kernel
theorem dX12_waitHere_171 : decode cX12_waitHere 171 = .ok (.goto 25, 3) := by decide +kernel
theorem dX12_waitHere_174 : decode cX12_waitHere 174 = .ok (.aload_n 0, 1) := by decide +kernel
theorem dX12_waitHere_175 : decode cX12_waitHere 175 = .ok (.getfield 36, 3) := by decide +kernel
theorem dX12_waitHere_178 : decode cX12_waitHere 178 = .ok (.iconst 0, 1) := by decide +kernel
theorem dX12_waitHere_179 : decode cX12_waitHere 179 = .ok (.iaload, 1) := by decide +kernel
theorem dX12_waitHere_180 : decode cX12_waitHere 180 = .ok (.bipush 9, 2) := by decide +kernel
theorem dX12_waitHere_182 : decode cX12_waitHere 182 = .ok (.if_icmp .le 8, 3) := by decide +kernel
theorem dX12_waitHere_185 : decode cX12_waitHere 185 = .ok (.bipush 9, 2) := by decide +kernel
theorem dX12_waitHere_187 : decode cX12_waitHere 187 = .ok (.goto 9, 3) := by decide +kernel
theorem dX12_waitHere_190 : decode cX12_waitHere 190 = .ok (.aload_n 0, 1) := by decide +kernel
theorem dX12_waitHere_191 : decode cX12_waitHere 191 = .ok (.getfield 36, 3) := by decide +kernel
theorem dX12_waitHere_194 : decode cX12_waitHere 194 = .ok (.iconst 0, 1) := by decide +kernel
theorem dX12_waitHere_195 : decode cX12_waitHere 195 = .ok (.iaload, 1) := by decide +kernel
theorem dX12_waitHere_196 : decode cX12_waitHere 196 = .ok (.ireturn, 1) := by decide +kernel
theorem dX12_readVillage_0 : decode cX12_readVillage 0 = .ok (.aload_n 0, 1) := by decide +kernel
theorem dX12_readVillage_1 : decode cX12_readVillage 1 = .ok (.iconst 0, 1) := by decide +kernel
theorem dX12_readVillage_2 : decode cX12_readVillage 2 = .ok (.aload_n 0, 1) := by decide +kernel
theorem dX12_readVillage_3 : decode cX12_readVillage 3 = .ok (.getfield 258, 3) := by decide +kernel
theorem dX12_readVillage_6 : decode cX12_readVillage 6 = .ok (.invokevirtual 332, 3) := by decide +kernel
theorem dX12_readVillage_9 : decode cX12_readVillage 9 = .ok (.aload_n 0, 1) := by decide +kernel
theorem dX12_readVillage_10 : decode cX12_readVillage 10 = .ok (.getfield 185, 3) := by decide +kernel
theorem dX12_readVillage_13 : decode cX12_readVillage 13 = .ok (.ifCond .ne 13, 3) := by decide +kernel
theorem dX12_readVillage_16 : decode cX12_readVillage 16 = .ok (.aload_n 0, 1) := by decide +kernel
theorem dX12_readVillage_17 : decode cX12_readVillage 17 = .ok (.dup, 1) := by decide +kernel
theorem dX12_readVillage_18 : decode cX12_readVillage 18 = .ok (.getfield 258, 3) := by decide +kernel
theorem dX12_readVillage_21 : decode cX12_readVillage 21 = .ok (.iconst 1, 1) := by decide +kernel
theorem dX12_readVillage_22 : decode cX12_readVillage 22 = .ok (.iadd, 1) := by decide +kernel
theorem dX12_readVillage_23 : decode cX12_readVillage 23 = .ok (.putfield 258, 3) := by decide +kernel
theorem dX12_readVillage_26 : decode cX12_readVillage 26 = .ok (.return_, 1) := by decide +kernel
theorem dX12_isWayTold_0 : decode cX12_isWayTold 0 = .ok (.iconst 0, 1) := by decide +kernel
theorem dX12_isWayTold_1 : decode cX12_isWayTold 1 = .ok (.istore_n 3, 1) := by decide +kernel
theorem dX12_isWayTold_2 : decode cX12_isWayTold 2 = .ok (.iconst 0, 1) := by decide +kernel
theorem dX12_isWayTold_3 : decode cX12_isWayTold 3 = .ok (.istore 4, 2) := by decide +kernel
theorem dX12_isWayTold_5 : decode cX12_isWayTold 5 = .ok (.iload 4, 2) := by decide +kernel
theorem dX12_isWayTold_7 : decode cX12_isWayTold 7 = .ok (.aload_n 0, 1) := by decide +kernel
theorem dX12_isWayTold_8 : decode cX12_isWayTold 8 = .ok (.getfield 335, 3) := by decide +kernel
theorem dX12_isWayTold_11 : decode cX12_isWayTold 11 = .ok (.if_icmp .ge 63, 3) := by decide +kernel
theorem dX12_isWayTold_14 : decode cX12_isWayTold 14 = .ok (.iload_n 3, 1) := by decide +kernel
theorem dX12_isWayTold_15 : decode cX12_isWayTold 15 = .ok (.ifCond .ne 47, 3) := by decide +kernel
theorem dX12_isWayTold_18 : decode cX12_isWayTold 18 = .ok (.aload_n 0, 1) := by decide +kernel
theorem dX12_isWayTold_19 : decode cX12_isWayTold 19 = .ok (.getfield 42, 3) := by decide +kernel
theorem dX12_isWayTold_22 : decode cX12_isWayTold 22 = .ok (.iload 4, 2) := by decide +kernel
theorem dX12_isWayTold_24 : decode cX12_isWayTold 24 = .ok (.iaload, 1) := by decide +kernel
theorem dX12_isWayTold_25 : decode cX12_isWayTold 25 = .ok (.iload_n 1, 1) := by decide +kernel
theorem dX12_isWayTold_26 : decode cX12_isWayTold 26 = .ok (.if_icmp .ne 14, 3) := by decide +kernel
theorem dX12_isWayTold_29 : decode cX12_isWayTold 29 = .ok (.aload_n 0, 1) := by decide +kernel
theorem dX12_isWayTold_30 : decode cX12_isWayTold 30 = .ok (.getfield 45, 3) := by decide +kernel
theorem dX12_isWayTold_33 : decode cX12_isWayTold 33 = .ok (.iload 4, 2) := by decide +kernel
theorem dX12_isWayTold_35 : decode cX12_isWayTold 35 = .ok (.iaload, 1) := by decide +kernel
theorem dX12_isWayTold_36 : decode cX12_isWayTold 36 = .ok (.iload_n 2, 1) := by decide +kernel
theorem dX12_isWayTold_37 : decode cX12_isWayTold 37 = .ok (.if_icmp .eq 25, 3) := by decide +kernel
theorem dX12_isWayTold_40 : decode cX12_isWayTold 40 = .ok (.aload_n 0, 1) := by decide +kernel
theorem dX12_isWayTold_41 : decode cX12_isWayTold 41 = .ok (.getfield 42, 3) := by decide +kernel
theorem dX12_isWayTold_44 : decode cX12_isWayTold 44 = .ok (.iload 4, 2) := by decide +kernel
theorem dX12_isWayTold_46 : decode cX12_isWayTold 46 = .ok (.iaload, 1) := by decide +kernel
theorem dX12_isWayTold_47 : decode cX12_isWayTold 47 = .ok (.iload_n 2, 1) := by decide +kernel
theorem dX12_isWayTold_48 : decode cX12_isWayTold 48 = .ok (.if_icmp .ne 18, 3) := by decide +kernel
theorem dX12_isWayTold_51 : decode cX12_isWayTold 51 = .ok (.aload_n 0, 1) := by decide +kernel
theorem dX12_isWayTold_52 : decode cX12_isWayTold 52 = .ok (.getfield 45, 3) := by decide +kernel
theorem dX12_isWayTold_55 : decode cX12_isWayTold 55 = .ok (.iload 4, 2) := by decide +kernel
theorem dX12_isWayTold_57 : decode cX12_isWayTold 57 = .ok (.iaload, 1) := by decide +kernel
theorem dX12_isWayTold_58 : decode cX12_isWayTold 58 = .ok (.iload_n 1, 1) := by decide +kernel
theorem dX12_isWayTold_59 : decode cX12_isWayTold 59 = .ok (.if_icmp .ne 7, 3) := by decide +kernel
theorem dX12_isWayTold_62 : decode cX12_isWayTold 62 = .ok (.iconst 1, 1) := by decide +kernel
theorem dX12_isWayTold_63 : decode cX12_isWayTold 63 = .ok (.goto 4, 3) := by decide +kernel
theorem dX12_isWayTold_66 : decode cX12_isWayTold 66 = .ok (.iconst 0, 1) := by decide +kernel
theorem dX12_isWayTold_67 : decode cX12_isWayTold 67 = .ok (.istore_n 3, 1) := by decide +kernel
theorem dX12_isWayTold_68 : decode cX12_isWayTold 68 = .ok (.iinc 4 1, 3) := by decide +kernel
theorem dX12_isWayTold_71 : decode cX12_isWayTold 71 = .ok (.goto (-66), 3) := by decide +kernel
theorem dX12_isWayTold_74 : decode cX12_isWayTold 74 = .ok (.iload_n 3, 1) := by decide +kernel
theorem dX12_isWayTold_75 : decode cX12_isWayTold 75 = .ok (.ireturn, 1) := by decide +kernel
theorem dX12_readWay_0 : decode cX12_readWay 0 = .ok (.aload_n 0, 1) := by decide +kernel
theorem dX12_readWay_1 : decode cX12_readWay 1 = .ok (.invokevirtual 237, 3) := by decide +kernel
theorem dX12_readWay_4 : decode cX12_readWay 4 = .ok (.aload_n 0, 1) := by decide +kernel
theorem dX12_readWay_5 : decode cX12_readWay 5 = .ok (.invokevirtual 261, 3) := by decide +kernel
theorem dX12_readWay_8 : decode cX12_readWay 8 = .ok (.istore_n 1, 1) := by decide +kernel
theorem dX12_readWay_9 : decode cX12_readWay 9 = .ok (.aload_n 0, 1) := by decide +kernel
theorem dX12_readWay_10 : decode cX12_readWay 10 = .ok (.getfield 185, 3) := by decide +kernel
theorem dX12_readWay_13 : decode cX12_readWay 13 = .ok (.ifCond .ne 7, 3) := by decide +kernel
theorem dX12_readWay_16 : decode cX12_readWay 16 = .ok (.aload_n 0, 1) := by decide +kernel
theorem dX12_readWay_17 : decode cX12_readWay 17 = .ok (.invokevirtual 237, 3) := by decide +kernel
theorem dX12_readWay_20 : decode cX12_readWay 20 = .ok (.aload_n 0, 1) := by decide +kernel
theorem dX12_readWay_21 : decode cX12_readWay 21 = .ok (.invokevirtual 261, 3) := by decide +kernel
theorem dX12_readWay_24 : decode cX12_readWay 24 = .ok (.istore_n 2, 1) := by decide +kernel
theorem dX12_readWay_25 : decode cX12_readWay 25 = .ok (.aload_n 0, 1) := by decide +kernel
theorem dX12_readWay_26 : decode cX12_readWay 26 = .ok (.getfield 185, 3) := by decide +kernel
theorem dX12_readWay_29 : decode cX12_readWay 29 = .ok (.ifCond .ne 22, 3) := by decide +kernel
theorem dX12_readWay_32 : decode cX12_readWay 32 = .ok (.iload_n 1, 1) := by decide +kernel
theorem dX12_readWay_33 : decode cX12_readWay 33 = .ok (.iload_n 2, 1) := by decide +kernel
theorem dX12_readWay_34 : decode cX12_readWay 34 = .ok (.if_icmp .eq 12, 3) := by decide +kernel
theorem dX12_readWay_37 : decode cX12_readWay 37 = .ok (.aload_n 0, 1) := by decide +kernel
theorem dX12_readWay_38 : decode cX12_readWay 38 = .ok (.iload_n 1, 1) := by decide +kernel
theorem dX12_readWay_39 : decode cX12_readWay 39 = .ok (.iload_n 2, 1) := by decide +kernel
theorem dX12_readWay_40 : decode cX12_readWay 40 = .ok (.invokevirtual 338, 3) := by decide +kernel
theorem dX12_readWay_43 : decode cX12_readWay 43 = .ok (.ifCond .eq 8, 3) := by decide +kernel
theorem dX12_readWay_46 : decode cX12_readWay 46 = .ok (.aload_n 0, 1) := by decide +kernel
theorem dX12_readWay_47 : decode cX12_readWay 47 = .ok (.iconst 3, 1) := by decide +kernel
theorem dX12_readWay_48 : decode cX12_readWay 48 = .ok (.invokevirtual 234, 3) := by decide +kernel
theorem dX12_readWay_51 : decode cX12_readWay 51 = .ok (.aload_n 0, 1) := by decide +kernel
theorem dX12_readWay_52 : decode cX12_readWay 52 = .ok (.getfield 185, 3) := by decide +kernel
theorem dX12_readWay_55 : decode cX12_readWay 55 = .ok (.ifCond .ne 7, 3) := by decide +kernel
theorem dX12_readWay_58 : decode cX12_readWay 58 = .ok (.aload_n 0, 1) := by decide +kernel
theorem dX12_readWay_59 : decode cX12_readWay 59 = .ok (.invokevirtual 237, 3) := by decide +kernel
theorem dX12_readWay_62 : decode cX12_readWay 62 = .ok (.aload_n 0, 1) := by decide +kernel
theorem dX12_readWay_63 : decode cX12_readWay 63 = .ok (.getfield 48, 3) := by decide +kernel
theorem dX12_readWay_66 : decode cX12_readWay 66 = .ok (.aload_n 0, 1) := by decide +kernel
theorem dX12_readWay_67 : decode cX12_readWay 67 = .ok (.getfield 335, 3) := by decide +kernel
theorem dX12_readWay_70 : decode cX12_readWay 70 = .ok (.aload_n 0, 1) := by decide +kernel
theorem dX12_readWay_71 : decode cX12_readWay 71 = .ok (.iconst 1, 1) := by decide +kernel
theorem dX12_readWay_72 : decode cX12_readWay 72 = .ok (.bipush 9, 2) := by decide +kernel
theorem dX12_readWay_74 : decode cX12_readWay 74 = .ok (.invokevirtual 244, 3) := by decide +kernel
theorem dX12_readWay_77 : decode cX12_readWay 77 = .ok (.iastore, 1) := by decide +kernel
theorem dX12_readWay_78 : decode cX12_readWay 78 = .ok (.aload_n 0, 1) := by decide +kernel
theorem dX12_readWay_79 : decode cX12_readWay 79 = .ok (.getfield 185, 3) := by decide +kernel
theorem dX12_readWay_82 : decode cX12_readWay 82 = .ok (.ifCond .le 4, 3) := by decide +kernel
theorem dX12_readWay_85 : decode cX12_readWay 85 = .ok (.return_, 1) := by decide +kernel
theorem dX12_readWay_86 : decode cX12_readWay 86 = .ok (.aload_n 0, 1) := by decide +kernel
theorem dX12_readWay_87 : decode cX12_readWay 87 = .ok (.getfield 42, 3) := by decide +kernel
theorem dX12_readWay_90 : decode cX12_readWay 90 = .ok (.aload_n 0, 1) := by decide +kernel
theorem dX12_readWay_91 : decode cX12_readWay 91 = .ok (.getfield 335, 3) := by decide +kernel
theorem dX12_readWay_94 : decode cX12_readWay 94 = .ok (.iload_n 1, 1) := by decide +kernel
theorem dX12_readWay_95 : decode cX12_readWay 95 = .ok (.iastore, 1) := by decide +kernel
theorem dX12_readWay_96 : decode cX12_readWay 96 = .ok (.aload_n 0, 1) := by decide +kernel
theorem dX12_readWay_97 : decode cX12_readWay 97 = .ok (.getfield 45, 3) := by decide +kernel
theorem dX12_readWay_100 : decode cX12_readWay 100 = .ok (.aload_n 0, 1) := by decide +kernel
theorem dX12_readWay_101 : decode cX12_readWay 101 = .ok (.getfield 335, 3) := by decide +kernel
theorem dX12_readWay_104 : decode cX12_readWay 104 = .ok (.iload_n 2, 1) := by decide +kernel
theorem dX12_readWay_105 : decode cX12_readWay 105 = .ok (.iastore, 1) := by decide +kernel
theorem dX12_readWay_106 : decode cX12_readWay 106 = .ok (.aload_n 0, 1) := by decide +kernel
theorem dX12_readWay_107 : decode cX12_readWay 107 = .ok (.dup, 1) := by decide +kernel
theorem dX12_readWay_108 : decode cX12_readWay 108 = .ok (.getfield 335, 3) := by decide +kernel
theorem dX12_readWay_111 : decode cX12_readWay 111 = .ok (.iconst 1, 1) := by decide +kernel
theorem dX12_readWay_112 : decode cX12_readWay 112 = .ok (.iadd, 1) := by decide +kernel
theorem dX12_readWay_113 : decode cX12_readWay 113 = .ok (.putfield 335, 3) := by decide +kernel
theorem dX12_readWay_116 : decode cX12_readWay 116 = .ok (.return_, 1) := by decide +kernel
theorem dX12_readBier_0 : decode cX12_readBier 0 = .ok (.aload_n 0, 1) := by decide +kernel
theorem dX12_readBier_1 : decode cX12_readBier 1 = .ok (.bipush 7, 2) := by decide +kernel
theorem dX12_readBier_3 : decode cX12_readBier 3 = .ok (.aload_n 0, 1) := by decide +kernel
theorem dX12_readBier_4 : decode cX12_readBier 4 = .ok (.getfield 342, 3) := by decide +kernel
theorem dX12_readBier_7 : decode cX12_readBier 7 = .ok (.invokevirtual 332, 3) := by decide +kernel
theorem dX12_readBier_10 : decode cX12_readBier 10 = .ok (.aload_n 0, 1) := by decide +kernel
theorem dX12_readBier_11 : decode cX12_readBier 11 = .ok (.getfield 342, 3) := by decide +kernel
theorem dX12_readBier_14 : decode cX12_readBier 14 = .ok (.istore_n 1, 1) := by decide +kernel
theorem dX12_readBier_15 : decode cX12_readBier 15 = .ok (.aload_n 0, 1) := by decide +kernel
theorem dX12_readBier_16 : decode cX12_readBier 16 = .ok (.getfield 60, 3) := by decide +kernel
theorem dX12_readBier_19 : decode cX12_readBier 19 = .ok (.iload_n 1, 1) := by decide +kernel
theorem dX12_readBier_20 : decode cX12_readBier 20 = .ok (.aload_n 0, 1) := by decide +kernel
theorem dX12_readBier_21 : decode cX12_readBier 21 = .ok (.ldc2_w 194, 3) := by decide +kernel
theorem dX12_readBier_24 : decode cX12_readBier 24 = .ok (.invokevirtual 345, 3) := by decide +kernel
theorem dX12_readBier_27 : decode cX12_readBier 27 = .ok (.iastore, 1) := by decide +kernel
theorem dX12_readBier_28 : decode cX12_readBier 28 = .ok (.aload_n 0, 1) := by decide +kernel
theorem dX12_readBier_29 : decode cX12_readBier 29 = .ok (.getfield 63, 3) := by decide +kernel
theorem dX12_readBier_32 : decode cX12_readBier 32 = .ok (.iload_n 1, 1) := by decide +kernel
theorem dX12_readBier_33 : decode cX12_readBier 33 = .ok (.aload_n 0, 1) := by decide +kernel
theorem dX12_readBier_34 : decode cX12_readBier 34 = .ok (.aload_n 0, 1) := by decide +kernel
theorem dX12_readBier_35 : decode cX12_readBier 35 = .ok (.getfield 60, 3) := by decide +kernel
theorem dX12_readBier_38 : decode cX12_readBier 38 = .ok (.iload_n 1, 1) := by decide +kernel
theorem dX12_readBier_39 : decode cX12_readBier 39 = .ok (.iaload, 1) := by decide +kernel
theorem dX12_readBier_40 : decode cX12_readBier 40 = .ok (.invokevirtual 349, 3) := by decide +kernel
theorem dX12_readBier_43 : decode cX12_readBier 43 = .ok (.iastore, 1) := by decide +kernel
theorem dX12_readBier_44 : decode cX12_readBier 44 = .ok (.aload_n 0, 1) := by decide +kernel
theorem dX12_readBier_45 : decode cX12_readBier 45 = .ok (.getfield 66, 3) := by decide +kernel
theorem dX12_readBier_48 : decode cX12_readBier 48 = .ok (.iload_n 1, 1) := by decide +kernel
theorem dX12_readBier_49 : decode cX12_readBier 49 = .ok (.aload_n 0, 1) := by decide +kernel
theorem dX12_readBier_50 : decode cX12_readBier 50 = .ok (.ldc2_w 198, 3) := by decide +kernel
theorem dX12_readBier_53 : decode cX12_readBier 53 = .ok (.iconst 0, 1) := by decide +kernel
theorem dX12_readBier_54 : decode cX12_readBier 54 = .ok (.bipush 60, 2) := by decide +kernel
theorem dX12_readBier_56 : decode cX12_readBier 56 = .ok (.invokevirtual 248, 3) := by decide +kernel
theorem dX12_readBier_59 : decode cX12_readBier 59 = .ok (.iastore, 1) := by decide +kernel
theorem dX12_readBier_60 : decode cX12_readBier 60 = .ok (.aload_n 0, 1) := by decide +kernel
theorem dX12_readBier_61 : decode cX12_readBier 61 = .ok (.getfield 69, 3) := by decide +kernel
theorem dX12_readBier_64 : decode cX12_readBier 64 = .ok (.iload_n 1, 1) := by decide +kernel
theorem dX12_readBier_65 : decode cX12_readBier 65 = .ok (.aload_n 0, 1) := by decide +kernel
theorem dX12_readBier_66 : decode cX12_readBier 66 = .ok (.ldc2_w 200, 3) := by decide +kernel
theorem dX12_readBier_69 : decode cX12_readBier 69 = .ok (.iconst 1, 1) := by decide +kernel
theorem dX12_readBier_70 : decode cX12_readBier 70 = .ok (.bipush 9, 2) := by decide +kernel
theorem dX12_readBier_72 : decode cX12_readBier 72 = .ok (.iconst 2, 1) := by decide +kernel
theorem dX12_readBier_73 : decode cX12_readBier 73 = .ok (.invokevirtual 352, 3) := by decide +kernel
theorem dX12_readBier_76 : decode cX12_readBier 76 = .ok (.iastore, 1) := by decide +kernel
theorem dX12_readBier_77 : decode cX12_readBier 77 = .ok (.aload_n 0, 1) := by decide +kernel
theorem dX12_readBier_78 : decode cX12_readBier 78 = .ok (.getfield 185, 3) := by decide +kernel
theorem dX12_readBier_81 : decode cX12_readBier 81 = .ok (.ifCond .ne 13, 3) := by decide +kernel
theorem dX12_readBier_84 : decode cX12_readBier 84 = .ok (.aload_n 0, 1) := by decide +kernel
theorem dX12_readBier_85 : decode cX12_readBier 85 = .ok (.dup, 1) := by decide +kernel
theorem dX12_readBier_86 : decode cX12_readBier 86 = .ok (.getfield 342, 3) := by decide +kernel
theorem dX12_readBier_89 : decode cX12_readBier 89 = .ok (.iconst 1, 1) := by decide +kernel
theorem dX12_readBier_90 : decode cX12_readBier 90 = .ok (.iadd, 1) := by decide +kernel
theorem dX12_readBier_91 : decode cX12_readBier 91 = .ok (.putfield 342, 3) := by decide +kernel
theorem dX12_readBier_94 : decode cX12_readBier 94 = .ok (.return_, 1) := by decide +kernel
theorem dX12_readLetter_0 : decode cX12_readLetter 0 = .ok (.aload_n 0, 1) := by decide +kernel
theorem dX12_readLetter_1 : decode cX12_readLetter 1 = .ok (.bipush 13, 2) := by decide +kernel
theorem dX12_readLetter_3 : decode cX12_readLetter 3 = .ok (.aload_n 0, 1) := by decide +kernel
theorem dX12_readLetter_4 : decode cX12_readLetter 4 = .ok (.getfield 356, 3) := by decide +kernel
theorem dX12_readLetter_7 : decode cX12_readLetter 7 = .ok (.invokevirtual 332, 3) := by decide +kernel
theorem dX12_readLetter_10 : decode cX12_readLetter 10 = .ok (.aload_n 0, 1) := by decide +kernel
theorem dX12_readLetter_11 : decode cX12_readLetter 11 = .ok (.getfield 356, 3) := by decide +kernel
theorem dX12_readLetter_14 : decode cX12_readLetter 14 = .ok (.istore_n 1, 1) := by decide +kernel
theorem dX12_readLetter_15 : decode cX12_readLetter 15 = .ok (.aload_n 0, 1) := by decide +kernel
theorem dX12_readLetter_16 : decode cX12_readLetter 16 = .ok (.getfield 84, 3) := by decide +kernel
theorem dX12_readLetter_19 : decode cX12_readLetter 19 = .ok (.iload_n 1, 1) := by decide +kernel
theorem dX12_readLetter_20 : decode cX12_readLetter 20 = .ok (.aload_n 0, 1) := by decide +kernel
theorem dX12_readLetter_21 : decode cX12_readLetter 21 = .ok (.ldc2_w 204, 3) := by decide +kernel
theorem dX12_readLetter_24 : decode cX12_readLetter 24 = .ok (.invokevirtual 345, 3) := by decide +kernel
theorem dX12_readLetter_27 : decode cX12_readLetter 27 = .ok (.iastore, 1) := by decide +kernel
theorem dX12_readLetter_28 : decode cX12_readLetter 28 = .ok (.aload_n 0, 1) := by decide +kernel
theorem dX12_readLetter_29 : decode cX12_readLetter 29 = .ok (.getfield 87, 3) := by decide +kernel
theorem dX12_readLetter_32 : decode cX12_readLetter 32 = .ok (.iload_n 1, 1) := by decide +kernel
theorem dX12_readLetter_33 : decode cX12_readLetter 33 = .ok (.aload_n 0, 1) := by decide +kernel
theorem dX12_readLetter_34 : decode cX12_readLetter 34 = .ok (.aload_n 0, 1) := by decide +kernel
theorem dX12_readLetter_35 : decode cX12_readLetter 35 = .ok (.getfield 84, 3) := by decide +kernel
theorem dX12_readLetter_38 : decode cX12_readLetter 38 = .ok (.iload_n 1, 1) := by decide +kernel
theorem dX12_readLetter_39 : decode cX12_readLetter 39 = .ok (.iaload, 1) := by decide +kernel
theorem dX12_readLetter_40 : decode cX12_readLetter 40 = .ok (.invokevirtual 349, 3) := by decide +kernel
theorem dX12_readLetter_43 : decode cX12_readLetter 43 = .ok (.iastore, 1) := by decide +kernel
theorem dX12_readLetter_44 : decode cX12_readLetter 44 = .ok (.aload_n 0, 1) := by decide +kernel
theorem dX12_readLetter_45 : decode cX12_readLetter 45 = .ok (.getfield 90, 3) := by decide +kernel
theorem dX12_readLetter_48 : decode cX12_readLetter 48 = .ok (.iload_n 1, 1) := by decide +kernel
theorem dX12_readLetter_49 : decode cX12_readLetter 49 = .ok (.aload_n 0, 1) := by decide +kernel
theorem dX12_readLetter_50 : decode cX12_readLetter 50 = .ok (.ldc2_w 206, 3) := by decide +kernel
theorem dX12_readLetter_53 : decode cX12_readLetter 53 = .ok (.iconst 0, 1) := by decide +kernel
theorem dX12_readLetter_54 : decode cX12_readLetter 54 = .ok (.sipush 200, 3) := by decide +kernel
theorem dX12_readLetter_57 : decode cX12_readLetter 57 = .ok (.sipush 200, 3) := by decide +kernel
theorem dX12_readLetter_60 : decode cX12_readLetter 60 = .ok (.invokevirtual 352, 3) := by decide +kernel
theorem dX12_readLetter_63 : decode cX12_readLetter 63 = .ok (.iastore, 1) := by decide +kernel
theorem dX12_readLetter_64 : decode cX12_readLetter 64 = .ok (.aload_n 0, 1) := by decide +kernel
theorem dX12_readLetter_65 : decode cX12_readLetter 65 = .ok (.getfield 93, 3) := by decide +kernel
theorem dX12_readLetter_68 : decode cX12_readLetter 68 = .ok (.iload_n 1, 1) := by decide +kernel
theorem dX12_readLetter_69 : decode cX12_readLetter 69 = .ok (.aload_n 0, 1) := by decide +kernel
theorem dX12_readLetter_70 : decode cX12_readLetter 70 = .ok (.ldc2_w 208, 3) := by decide +kernel
theorem dX12_readLetter_73 : decode cX12_readLetter 73 = .ok (.iconst 1, 1) := by decide +kernel
theorem dX12_readLetter_74 : decode cX12_readLetter 74 = .ok (.bipush 9, 2) := by decide +kernel
theorem dX12_readLetter_76 : decode cX12_readLetter 76 = .ok (.iconst 1, 1) := by decide +kernel
theorem dX12_readLetter_77 : decode cX12_readLetter 77 = .ok (.invokevirtual 352, 3) := by decide +kernel
theorem dX12_readLetter_80 : decode cX12_readLetter 80 = .ok (.iastore, 1) := by decide +kernel
theorem dX12_readLetter_81 : decode cX12_readLetter 81 = .ok (.aload_n 0, 1) := by decide +kernel
theorem dX12_readLetter_82 : decode cX12_readLetter 82 = .ok (.getfield 185, 3) := by decide +kernel
theorem dX12_readLetter_85 : decode cX12_readLetter 85 = .ok (.ifCond .ne 13, 3) := by decide +kernel
theorem dX12_readLetter_88 : decode cX12_readLetter 88 = .ok (.aload_n 0, 1) := by decide +kernel
theorem dX12_readLetter_89 : decode cX12_readLetter 89 = .ok (.dup, 1) := by decide +kernel
theorem dX12_readLetter_90 : decode cX12_readLetter 90 = .ok (.getfield 356, 3) := by decide +kernel
theorem dX12_readLetter_93 : decode cX12_readLetter 93 = .ok (.iconst 1, 1) := by decide +kernel
theorem dX12_readLetter_94 : decode cX12_readLetter 94 = .ok (.iadd, 1) := by decide +kernel
theorem dX12_readLetter_95 : decode cX12_readLetter 95 = .ok (.putfield 356, 3) := by decide +kernel
theorem dX12_readLetter_98 : decode cX12_readLetter 98 = .ok (.return_, 1) := by decide +kernel
theorem dX12_readWinter_0 : decode cX12_readWinter 0 = .ok (.aload_n 0, 1) := by decide +kernel
theorem dX12_readWinter_1 : decode cX12_readWinter 1 = .ok (.iconst 1, 1) := by decide +kernel
theorem dX12_readWinter_2 : decode cX12_readWinter 2 = .ok (.putfield 359, 3) := by decide +kernel
theorem dX12_readWinter_5 : decode cX12_readWinter 5 = .ok (.aload_n 0, 1) := by decide +kernel
theorem dX12_readWinter_6 : decode cX12_readWinter 6 = .ok (.aload_n 0, 1) := by decide +kernel
theorem dX12_readWinter_7 : decode cX12_readWinter 7 = .ok (.ldc2_w 212, 3) := by decide +kernel
theorem dX12_readWinter_10 : decode cX12_readWinter 10 = .ok (.iconst 0, 1) := by decide +kernel
theorem dX12_readWinter_11 : decode cX12_readWinter 11 = .ok (.sipush 200, 3) := by decide +kernel
theorem dX12_readWinter_14 : decode cX12_readWinter 14 = .ok (.invokevirtual 248, 3) := by decide +kernel
theorem dX12_readWinter_17 : decode cX12_readWinter 17 = .ok (.putfield 362, 3) := by decide +kernel
theorem dX12_readWinter_20 : decode cX12_readWinter 20 = .ok (.aload_n 0, 1) := by decide +kernel
theorem dX12_readWinter_21 : decode cX12_readWinter 21 = .ok (.aload_n 0, 1) := by decide +kernel
theorem dX12_readWinter_22 : decode cX12_readWinter 22 = .ok (.ldc2_w 196, 3) := by decide +kernel
theorem dX12_readWinter_25 : decode cX12_readWinter 25 = .ok (.aload_n 0, 1) := by decide +kernel
theorem dX12_readWinter_26 : decode cX12_readWinter 26 = .ok (.getfield 362, 3) := by decide +kernel
theorem dX12_readWinter_29 : decode cX12_readWinter 29 = .ok (.sipush 200, 3) := by decide +kernel
theorem dX12_readWinter_32 : decode cX12_readWinter 32 = .ok (.invokevirtual 248, 3) := by decide +kernel
theorem dX12_readWinter_35 : decode cX12_readWinter 35 = .ok (.putfield 365, 3) := by decide +kernel
theorem dX12_readWinter_38 : decode cX12_readWinter 38 = .ok (.return_, 1) := by decide +kernel
theorem dX12_readLine_0 : decode cX12_readLine 0 = .ok (.aload_n 0, 1) := by decide +kernel
theorem dX12_readLine_1 : decode cX12_readLine 1 = .ok (.ldc2_w 188, 3) := by decide +kernel
theorem dX12_readLine_4 : decode cX12_readLine 4 = .ok (.invokevirtual 230, 3) := by decide +kernel
theorem dX12_readLine_7 : decode cX12_readLine 7 = .ok (.ifCond .eq 19, 3) := by decide +kernel
theorem dX12_readLine_10 : decode cX12_readLine 10 = .ok (.aload_n 0, 1) := by decide +kernel
theorem dX12_readLine_11 : decode cX12_readLine 11 = .ok (.getfield 258, 3) := by decide +kernel
theorem dX12_readLine_14 : decode cX12_readLine 14 = .ok (.bipush 7, 2) := by decide +kernel
theorem dX12_readLine_16 : decode cX12_readLine 16 = .ok (.if_icmp .ge 10, 3) := by decide +kernel
theorem dX12_readLine_19 : decode cX12_readLine 19 = .ok (.aload_n 0, 1) := by decide +kernel
theorem dX12_readLine_20 : decode cX12_readLine 20 = .ok (.invokevirtual 368, 3) := by decide +kernel
theorem dX12_readLine_23 : decode cX12_readLine 23 = .ok (.goto 139, 3) := by decide +kernel
theorem dX12_readLine_26 : decode cX12_readLine 26 = .ok (.aload_n 0, 1) := by decide +kernel
theorem dX12_readLine_27 : decode cX12_readLine 27 = .ok (.ldc2_w 190, 3) := by decide +kernel
theorem dX12_readLine_30 : decode cX12_readLine 30 = .ok (.invokevirtual 230, 3) := by decide +kernel
theorem dX12_readLine_33 : decode cX12_readLine 33 = .ok (.ifCond .eq 19, 3) := by decide +kernel
theorem dX12_readLine_36 : decode cX12_readLine 36 = .ok (.aload_n 0, 1) := by decide +kernel
theorem dX12_readLine_37 : decode cX12_readLine 37 = .ok (.getfield 335, 3) := by decide +kernel
theorem dX12_readLine_40 : decode cX12_readLine 40 = .ok (.bipush 12, 2) := by decide +kernel
theorem dX12_readLine_42 : decode cX12_readLine 42 = .ok (.if_icmp .ge 10, 3) := by decide +kernel
theorem dX12_readLine_45 : decode cX12_readLine 45 = .ok (.aload_n 0, 1) := by decide +kernel
theorem dX12_readLine_46 : decode cX12_readLine 46 = .ok (.invokevirtual 371, 3) := by decide +kernel
theorem dX12_readLine_49 : decode cX12_readLine 49 = .ok (.goto 113, 3) := by decide +kernel
theorem dX12_readLine_52 : decode cX12_readLine 52 = .ok (.aload_n 0, 1) := by decide +kernel
theorem dX12_readLine_53 : decode cX12_readLine 53 = .ok (.ldc2_w 192, 3) := by decide +kernel
theorem dX12_readLine_56 : decode cX12_readLine 56 = .ok (.invokevirtual 230, 3) := by decide +kernel
theorem dX12_readLine_59 : decode cX12_readLine 59 = .ok (.ifCond .eq 19, 3) := by decide +kernel
theorem dX12_readLine_62 : decode cX12_readLine 62 = .ok (.aload_n 0, 1) := by decide +kernel
theorem dX12_readLine_63 : decode cX12_readLine 63 = .ok (.getfield 342, 3) := by decide +kernel
theorem dX12_readLine_66 : decode cX12_readLine 66 = .ok (.bipush 6, 2) := by decide +kernel
theorem dX12_readLine_68 : decode cX12_readLine 68 = .ok (.if_icmp .ge 10, 3) := by decide +kernel
theorem dX12_readLine_71 : decode cX12_readLine 71 = .ok (.aload_n 0, 1) := by decide +kernel
theorem dX12_readLine_72 : decode cX12_readLine 72 = .ok (.invokevirtual 374, 3) := by decide +kernel
theorem dX12_readLine_75 : decode cX12_readLine 75 = .ok (.goto 87, 3) := by decide +kernel
theorem dX12_readLine_78 : decode cX12_readLine 78 = .ok (.aload_n 0, 1) := by decide +kernel
theorem dX12_readLine_79 : decode cX12_readLine 79 = .ok (.ldc2_w 202, 3) := by decide +kernel
theorem dX12_readLine_82 : decode cX12_readLine 82 = .ok (.invokevirtual 230, 3) := by decide +kernel
theorem dX12_readLine_85 : decode cX12_readLine 85 = .ok (.ifCond .eq 19, 3) := by decide +kernel
theorem dX12_readLine_88 : decode cX12_readLine 88 = .ok (.aload_n 0, 1) := by decide +kernel
theorem dX12_readLine_89 : decode cX12_readLine 89 = .ok (.getfield 356, 3) := by decide +kernel
theorem dX12_readLine_92 : decode cX12_readLine 92 = .ok (.bipush 8, 2) := by decide +kernel
theorem dX12_readLine_94 : decode cX12_readLine 94 = .ok (.if_icmp .ge 10, 3) := by decide +kernel
theorem dX12_readLine_97 : decode cX12_readLine 97 = .ok (.aload_n 0, 1) := by decide +kernel
theorem dX12_readLine_98 : decode cX12_readLine 98 = .ok (.invokevirtual 377, 3) := by decide +kernel
theorem dX12_readLine_101 : decode cX12_readLine 101 = .ok (.goto 61, 3) := by decide +kernel
theorem dX12_readLine_104 : decode cX12_readLine 104 = .ok (.aload_n 0, 1) := by decide +kernel
theorem dX12_readLine_105 : decode cX12_readLine 105 = .ok (.ldc2_w 210, 3) := by decide +kernel
theorem dX12_readLine_108 : decode cX12_readLine 108 = .ok (.invokevirtual 230, 3) := by decide +kernel
theorem dX12_readLine_111 : decode cX12_readLine 111 = .ok (.ifCond .eq 22, 3) := by decide +kernel
theorem dX12_readLine_114 : decode cX12_readLine 114 = .ok (.aload_n 0, 1) := by decide +kernel
theorem dX12_readLine_115 : decode cX12_readLine 115 = .ok (.getfield 380, 3) := by decide +kernel
theorem dX12_readLine_118 : decode cX12_readLine 118 = .ok (.ifCond .ne 15, 3) := by decide +kernel
theorem dX12_readLine_121 : decode cX12_readLine 121 = .ok (.aload_n 0, 1) := by decide +kernel
theorem dX12_readLine_122 : decode cX12_readLine 122 = .ok (.iconst 1, 1) := by decide +kernel
theorem dX12_readLine_123 : decode cX12_readLine 123 = .ok (.putfield 380, 3) := by decide +kernel
theorem dX12_readLine_126 : decode cX12_readLine 126 = .ok (.aload_n 0, 1) := by decide +kernel
theorem dX12_readLine_127 : decode cX12_readLine 127 = .ok (.invokevirtual 383, 3) := by decide +kernel
theorem dX12_readLine_130 : decode cX12_readLine 130 = .ok (.goto 32, 3) := by decide +kernel
theorem dX12_readLine_133 : decode cX12_readLine 133 = .ok (.aload_n 0, 1) := by decide +kernel
theorem dX12_readLine_134 : decode cX12_readLine 134 = .ok (.ldc2_w 212, 3) := by decide +kernel
theorem dX12_readLine_137 : decode cX12_readLine 137 = .ok (.invokevirtual 230, 3) := by decide +kernel
theorem dX12_readLine_140 : decode cX12_readLine 140 = .ok (.ifCond .eq 17, 3) := by decide +kernel
theorem dX12_readLine_143 : decode cX12_readLine 143 = .ok (.aload_n 0, 1) := by decide +kernel
theorem dX12_readLine_144 : decode cX12_readLine 144 = .ok (.getfield 359, 3) := by decide +kernel
theorem dX12_readLine_147 : decode cX12_readLine 147 = .ok (.ifCond .ne 10, 3) := by decide +kernel
theorem dX12_readLine_150 : decode cX12_readLine 150 = .ok (.aload_n 0, 1) := by decide +kernel
theorem dX12_readLine_151 : decode cX12_readLine 151 = .ok (.invokevirtual 386, 3) := by decide +kernel
theorem dX12_readLine_154 : decode cX12_readLine 154 = .ok (.goto 8, 3) := by decide +kernel
theorem dX12_readLine_157 : decode cX12_readLine 157 = .ok (.aload_n 0, 1) := by decide +kernel
theorem dX12_readLine_158 : decode cX12_readLine 158 = .ok (.iconst 2, 1) := by decide +kernel
theorem dX12_readLine_159 : decode cX12_readLine 159 = .ok (.invokevirtual 234, 3) := by decide +kernel
theorem dX12_readLine_162 : decode cX12_readLine 162 = .ok (.aload_n 0, 1) := by decide +kernel
theorem dX12_readLine_163 : decode cX12_readLine 163 = .ok (.getfield 185, 3) := by decide +kernel
theorem dX12_readLine_166 : decode cX12_readLine 166 = .ok (.ifCond .ne 17, 3) := by decide +kernel
theorem dX12_readLine_169 : decode cX12_readLine 169 = .ok (.aload_n 0, 1) := by decide +kernel
theorem dX12_readLine_170 : decode cX12_readLine 170 = .ok (.getfield 172, 3) := by decide +kernel
theorem dX12_readLine_173 : decode cX12_readLine 173 = .ok (.bipush 59, 2) := by decide +kernel
theorem dX12_readLine_175 : decode cX12_readLine 175 = .ok (.if_icmp .eq 8, 3) := by decide +kernel
theorem dX12_readLine_178 : decode cX12_readLine 178 = .ok (.aload_n 0, 1) := by decide +kernel
theorem dX12_readLine_179 : decode cX12_readLine 179 = .ok (.iconst 2, 1) := by decide +kernel
theorem dX12_readLine_180 : decode cX12_readLine 180 = .ok (.invokevirtual 234, 3) := by decide +kernel
theorem dX12_readLine_183 : decode cX12_readLine 183 = .ok (.aload_n 0, 1) := by decide +kernel
theorem dX12_readLine_184 : decode cX12_readLine 184 = .ok (.getfield 185, 3) := by decide +kernel
theorem dX12_readLine_187 : decode cX12_readLine 187 = .ok (.ifCond .ne 7, 3) := by decide +kernel
theorem dX12_readLine_190 : decode cX12_readLine 190 = .ok (.aload_n 0, 1) := by decide +kernel
theorem dX12_readLine_191 : decode cX12_readLine 191 = .ok (.invokevirtual 237, 3) := by decide +kernel
theorem dX12_readLine_194 : decode cX12_readLine 194 = .ok (.return_, 1) := by decide +kernel
theorem dX12_readAll_0 : decode cX12_readAll 0 = .ok (.aload_n 0, 1) := by decide +kernel
theorem dX12_readAll_1 : decode cX12_readAll 1 = .ok (.aload_n 0, 1) := by decide +kernel
theorem dX12_readAll_2 : decode cX12_readAll 2 = .ok (.getfield 145, 3) := by decide +kernel
theorem dX12_readAll_5 : decode cX12_readAll 5 = .ok (.putfield 155, 3) := by decide +kernel
theorem dX12_readAll_8 : decode cX12_readAll 8 = .ok (.aload_n 0, 1) := by decide +kernel
theorem dX12_readAll_9 : decode cX12_readAll 9 = .ok (.iconst 0, 1) := by decide +kernel
theorem dX12_readAll_10 : decode cX12_readAll 10 = .ok (.putfield 145, 3) := by decide +kernel
theorem dX12_readAll_13 : decode cX12_readAll 13 = .ok (.aload_n 0, 1) := by decide +kernel
theorem dX12_readAll_14 : decode cX12_readAll 14 = .ok (.iconst 0, 1) := by decide +kernel
theorem dX12_readAll_15 : decode cX12_readAll 15 = .ok (.putfield 152, 3) := by decide +kernel
theorem dX12_readAll_18 : decode cX12_readAll 18 = .ok (.aload_n 0, 1) := by decide +kernel
theorem dX12_readAll_19 : decode cX12_readAll 19 = .ok (.iconst 0, 1) := by decide +kernel
theorem dX12_readAll_20 : decode cX12_readAll 20 = .ok (.putfield 185, 3) := by decide +kernel
theorem dX12_readAll_23 : decode cX12_readAll 23 = .ok (.aload_n 0, 1) := by decide +kernel
theorem dX12_readAll_24 : decode cX12_readAll 24 = .ok (.iconst (-1), 1) := by decide +kernel
theorem dX12_readAll_25 : decode cX12_readAll 25 = .ok (.putfield 13, 3) := by decide +kernel
theorem dX12_readAll_28 : decode cX12_readAll 28 = .ok (.aload_n 0, 1) := by decide +kernel
theorem dX12_readAll_29 : decode cX12_readAll 29 = .ok (.iconst 0, 1) := by decide +kernel
theorem dX12_readAll_30 : decode cX12_readAll 30 = .ok (.putfield 258, 3) := by decide +kernel
theorem dX12_readAll_33 : decode cX12_readAll 33 = .ok (.aload_n 0, 1) := by decide +kernel
theorem dX12_readAll_34 : decode cX12_readAll 34 = .ok (.iconst 0, 1) := by decide +kernel
theorem dX12_readAll_35 : decode cX12_readAll 35 = .ok (.putfield 335, 3) := by decide +kernel
theorem dX12_readAll_38 : decode cX12_readAll 38 = .ok (.aload_n 0, 1) := by decide +kernel
theorem dX12_readAll_39 : decode cX12_readAll 39 = .ok (.iconst 0, 1) := by decide +kernel
theorem dX12_readAll_40 : decode cX12_readAll 40 = .ok (.putfield 342, 3) := by decide +kernel
theorem dX12_readAll_43 : decode cX12_readAll 43 = .ok (.aload_n 0, 1) := by decide +kernel
theorem dX12_readAll_44 : decode cX12_readAll 44 = .ok (.iconst 0, 1) := by decide +kernel
theorem dX12_readAll_45 : decode cX12_readAll 45 = .ok (.putfield 356, 3) := by decide +kernel
theorem dX12_readAll_48 : decode cX12_readAll 48 = .ok (.aload_n 0, 1) := by decide +kernel
theorem dX12_readAll_49 : decode cX12_readAll 49 = .ok (.sipush 300, 3) := by decide +kernel
theorem dX12_readAll_52 : decode cX12_readAll 52 = .ok (.putfield 362, 3) := by decide +kernel
theorem dX12_readAll_55 : decode cX12_readAll 55 = .ok (.aload_n 0, 1) := by decide +kernel
theorem dX12_readAll_56 : decode cX12_readAll 56 = .ok (.iconst 0, 1) := by decide +kernel
theorem dX12_readAll_57 : decode cX12_readAll 57 = .ok (.putfield 365, 3) := by decide +kernel
theorem dX12_readAll_60 : decode cX12_readAll 60 = .ok (.aload_n 0, 1) := by decide +kernel
theorem dX12_readAll_61 : decode cX12_readAll 61 = .ok (.iconst 0, 1) := by decide +kernel
theorem dX12_readAll_62 : decode cX12_readAll 62 = .ok (.putfield 380, 3) := by decide +kernel
theorem dX12_readAll_65 : decode cX12_readAll 65 = .ok (.aload_n 0, 1) := by decide +kernel
theorem dX12_readAll_66 : decode cX12_readAll 66 = .ok (.iconst 0, 1) := by decide +kernel
theorem dX12_readAll_67 : decode cX12_readAll 67 = .ok (.putfield 359, 3) := by decide +kernel
theorem dX12_readAll_70 : decode cX12_readAll 70 = .ok (.aload_n 0, 1) := by decide +kernel
theorem dX12_readAll_71 : decode cX12_readAll 71 = .ok (.iconst 0, 1) := by decide +kernel
theorem dX12_readAll_72 : decode cX12_readAll 72 = .ok (.putfield 281, 3) := by decide +kernel
theorem dX12_readAll_75 : decode cX12_readAll 75 = .ok (.aload_n 0, 1) := by decide +kernel
theorem dX12_readAll_76 : decode cX12_readAll 76 = .ok (.iconst 0, 1) := by decide +kernel
theorem dX12_readAll_77 : decode cX12_readAll 77 = .ok (.putfield 265, 3) := by decide +kernel
theorem dX12_readAll_80 : decode cX12_readAll 80 = .ok (.aload_n 0, 1) := by decide +kernel
theorem dX12_readAll_81 : decode cX12_readAll 81 = .ok (.invokevirtual 237, 3) := by decide +kernel
theorem dX12_readAll_84 : decode cX12_readAll 84 = .ok (.aload_n 0, 1) := by decide +kernel
theorem dX12_readAll_85 : decode cX12_readAll 85 = .ok (.getfield 185, 3) := by decide +kernel
theorem dX12_readAll_88 : decode cX12_readAll 88 = .ok (.ifCond .ne 17, 3) := by decide +kernel
theorem dX12_readAll_91 : decode cX12_readAll 91 = .ok (.aload_n 0, 1) := by decide +kernel
theorem dX12_readAll_92 : decode cX12_readAll 92 = .ok (.getfield 172, 3) := by decide +kernel
theorem dX12_readAll_95 : decode cX12_readAll 95 = .ok (.ifCond .eq 10, 3) := by decide +kernel
theorem dX12_readAll_98 : decode cX12_readAll 98 = .ok (.aload_n 0, 1) := by decide +kernel
theorem dX12_readAll_99 : decode cX12_readAll 99 = .ok (.invokevirtual 389, 3) := by decide +kernel
theorem dX12_readAll_102 : decode cX12_readAll 102 = .ok (.goto (-18), 3) := by decide +kernel
theorem dX12_readAll_105 : decode cX12_readAll 105 = .ok (.return_, 1) := by decide +kernel
theorem dX12_land_0 : decode cX12_land 0 = .ok (.aload_n 0, 1) := by decide +kernel
theorem dX12_land_1 : decode cX12_land 1 = .ok (.invokevirtual 392, 3) := by decide +kernel
theorem dX12_land_4 : decode cX12_land 4 = .ok (.aload_n 0, 1) := by decide +kernel
theorem dX12_land_5 : decode cX12_land 5 = .ok (.getfield 185, 3) := by decide +kernel
theorem dX12_land_8 : decode cX12_land 8 = .ok (.ifCond .le 5, 3) := by decide +kernel
theorem dX12_land_11 : decode cX12_land 11 = .ok (.iconst (-1), 1) := by decide +kernel
theorem dX12_land_12 : decode cX12_land 12 = .ok (.ireturn, 1) := by decide +kernel
theorem dX12_land_13 : decode cX12_land 13 = .ok (.aload_n 0, 1) := by decide +kernel
theorem dX12_land_14 : decode cX12_land 14 = .ok (.aload_n 0, 1) := by decide +kernel
theorem dX12_land_15 : decode cX12_land 15 = .ok (.getfield 258, 3) := by decide +kernel
theorem dX12_land_18 : decode cX12_land 18 = .ok (.putfield 395, 3) := by decide +kernel
theorem dX12_land_21 : decode cX12_land 21 = .ok (.aload_n 0, 1) := by decide +kernel
theorem dX12_land_22 : decode cX12_land 22 = .ok (.aload_n 0, 1) := by decide +kernel
theorem dX12_land_23 : decode cX12_land 23 = .ok (.getfield 335, 3) := by decide +kernel
theorem dX12_land_26 : decode cX12_land 26 = .ok (.putfield 398, 3) := by decide +kernel
theorem dX12_land_29 : decode cX12_land 29 = .ok (.aload_n 0, 1) := by decide +kernel
theorem dX12_land_30 : decode cX12_land 30 = .ok (.aload_n 0, 1) := by decide +kernel
theorem dX12_land_31 : decode cX12_land 31 = .ok (.getfield 342, 3) := by decide +kernel
theorem dX12_land_34 : decode cX12_land 34 = .ok (.putfield 401, 3) := by decide +kernel
theorem dX12_land_37 : decode cX12_land 37 = .ok (.aload_n 0, 1) := by decide +kernel
theorem dX12_land_38 : decode cX12_land 38 = .ok (.aload_n 0, 1) := by decide +kernel
theorem dX12_land_39 : decode cX12_land 39 = .ok (.getfield 362, 3) := by decide +kernel
theorem dX12_land_42 : decode cX12_land 42 = .ok (.putfield 96, 3) := by decide +kernel
theorem dX12_land_45 : decode cX12_land 45 = .ok (.aload_n 0, 1) := by decide +kernel
theorem dX12_land_46 : decode cX12_land 46 = .ok (.aload_n 0, 1) := by decide +kernel
theorem dX12_land_47 : decode cX12_land 47 = .ok (.getfield 365, 3) := by decide +kernel
theorem dX12_land_50 : decode cX12_land 50 = .ok (.putfield 404, 3) := by decide +kernel
theorem dX12_land_53 : decode cX12_land 53 = .ok (.aload_n 0, 1) := by decide +kernel
theorem dX12_land_54 : decode cX12_land 54 = .ok (.aload_n 0, 1) := by decide +kernel
theorem dX12_land_55 : decode cX12_land 55 = .ok (.getfield 281, 3) := by decide +kernel
theorem dX12_land_58 : decode cX12_land 58 = .ok (.putfield 407, 3) := by decide +kernel
theorem dX12_land_61 : decode cX12_land 61 = .ok (.aload_n 0, 1) := by decide +kernel
theorem dX12_land_62 : decode cX12_land 62 = .ok (.aload_n 0, 1) := by decide +kernel
theorem dX12_land_63 : decode cX12_land 63 = .ok (.getfield 380, 3) := by decide +kernel
theorem dX12_land_66 : decode cX12_land 66 = .ok (.putfield 321, 3) := by decide +kernel
theorem dX12_land_69 : decode cX12_land 69 = .ok (.aload_n 0, 1) := by decide +kernel
theorem dX12_land_70 : decode cX12_land 70 = .ok (.aload_n 0, 1) := by decide +kernel
theorem dX12_land_71 : decode cX12_land 71 = .ok (.getfield 380, 3) := by decide +kernel
theorem dX12_land_74 : decode cX12_land 74 = .ok (.ifCond .eq 10, 3) := by decide +kernel
theorem dX12_land_77 : decode cX12_land 77 = .ok (.aload_n 0, 1) := by decide +kernel
theorem dX12_land_78 : decode cX12_land 78 = .ok (.getfield 265, 3) := by decide +kernel
theorem dX12_land_81 : decode cX12_land 81 = .ok (.goto 4, 3) := by decide +kernel
theorem dX12_land_84 : decode cX12_land 84 = .ok (.iconst 0, 1) := by decide +kernel
theorem dX12_land_85 : decode cX12_land 85 = .ok (.putfield 325, 3) := by decide +kernel
theorem dX12_land_88 : decode cX12_land 88 = .ok (.iconst 0, 1) := by decide +kernel
theorem dX12_land_89 : decode cX12_land 89 = .ok (.istore_n 1, 1) := by decide +kernel
theorem dX12_land_90 : decode cX12_land 90 = .ok (.iload_n 1, 1) := by decide +kernel
theorem dX12_land_91 : decode cX12_land 91 = .ok (.aload_n 0, 1) := by decide +kernel
theorem dX12_land_92 : decode cX12_land 92 = .ok (.getfield 325, 3) := by decide +kernel
theorem dX12_land_95 : decode cX12_land 95 = .ok (.if_icmp .ge 33, 3) := by decide +kernel
theorem dX12_land_98 : decode cX12_land 98 = .ok (.aload_n 0, 1) := by decide +kernel
theorem dX12_land_99 : decode cX12_land 99 = .ok (.getfield 27, 3) := by decide +kernel
theorem dX12_land_102 : decode cX12_land 102 = .ok (.iload_n 1, 1) := by decide +kernel
theorem dX12_land_103 : decode cX12_land 103 = .ok (.aload_n 0, 1) := by decide +kernel
theorem dX12_land_104 : decode cX12_land 104 = .ok (.getfield 21, 3) := by decide +kernel
theorem dX12_land_107 : decode cX12_land 107 = .ok (.iload_n 1, 1) := by decide +kernel
theorem dX12_land_108 : decode cX12_land 108 = .ok (.iaload, 1) := by decide +kernel
theorem dX12_land_109 : decode cX12_land 109 = .ok (.iastore, 1) := by decide +kernel
theorem dX12_land_110 : decode cX12_land 110 = .ok (.aload_n 0, 1) := by decide +kernel
theorem dX12_land_111 : decode cX12_land 111 = .ok (.getfield 30, 3) := by decide +kernel
theorem dX12_land_114 : decode cX12_land 114 = .ok (.iload_n 1, 1) := by decide +kernel
theorem dX12_land_115 : decode cX12_land 115 = .ok (.aload_n 0, 1) := by decide +kernel
theorem dX12_land_116 : decode cX12_land 116 = .ok (.getfield 24, 3) := by decide +kernel
theorem dX12_land_119 : decode cX12_land 119 = .ok (.iload_n 1, 1) := by decide +kernel
theorem dX12_land_120 : decode cX12_land 120 = .ok (.iaload, 1) := by decide +kernel
theorem dX12_land_121 : decode cX12_land 121 = .ok (.iastore, 1) := by decide +kernel
theorem dX12_land_122 : decode cX12_land 122 = .ok (.iinc 1 1, 3) := by decide +kernel
theorem dX12_land_125 : decode cX12_land 125 = .ok (.goto (-35), 3) := by decide +kernel
theorem dX12_land_128 : decode cX12_land 128 = .ok (.iconst 0, 1) := by decide +kernel
theorem dX12_land_129 : decode cX12_land 129 = .ok (.istore_n 1, 1) := by decide +kernel
theorem dX12_land_130 : decode cX12_land 130 = .ok (.iload_n 1, 1) := by decide +kernel
theorem dX12_land_131 : decode cX12_land 131 = .ok (.bipush 12, 2) := by decide +kernel
theorem dX12_land_133 : decode cX12_land 133 = .ok (.if_icmp .ge 45, 3) := by decide +kernel
theorem dX12_land_136 : decode cX12_land 136 = .ok (.aload_n 0, 1) := by decide +kernel
theorem dX12_land_137 : decode cX12_land 137 = .ok (.getfield 51, 3) := by decide +kernel
theorem dX12_land_140 : decode cX12_land 140 = .ok (.iload_n 1, 1) := by decide +kernel
theorem dX12_land_141 : decode cX12_land 141 = .ok (.aload_n 0, 1) := by decide +kernel
theorem dX12_land_142 : decode cX12_land 142 = .ok (.getfield 42, 3) := by decide +kernel
theorem dX12_land_145 : decode cX12_land 145 = .ok (.iload_n 1, 1) := by decide +kernel
theorem dX12_land_146 : decode cX12_land 146 = .ok (.iaload, 1) := by decide +kernel
theorem dX12_land_147 : decode cX12_land 147 = .ok (.iastore, 1) := by decide +kernel
theorem dX12_land_148 : decode cX12_land 148 = .ok (.aload_n 0, 1) := by decide +kernel
theorem dX12_land_149 : decode cX12_land 149 = .ok (.getfield 54, 3) := by decide +kernel
theorem dX12_land_152 : decode cX12_land 152 = .ok (.iload_n 1, 1) := by decide +kernel
theorem dX12_land_153 : decode cX12_land 153 = .ok (.aload_n 0, 1) := by decide +kernel
theorem dX12_land_154 : decode cX12_land 154 = .ok (.getfield 45, 3) := by decide +kernel
theorem dX12_land_157 : decode cX12_land 157 = .ok (.iload_n 1, 1) := by decide +kernel
theorem dX12_land_158 : decode cX12_land 158 = .ok (.iaload, 1) := by decide +kernel
theorem dX12_land_159 : decode cX12_land 159 = .ok (.iastore, 1) := by decide +kernel
theorem dX12_land_160 : decode cX12_land 160 = .ok (.aload_n 0, 1) := by decide +kernel
theorem dX12_land_161 : decode cX12_land 161 = .ok (.getfield 57, 3) := by decide +kernel
theorem dX12_land_164 : decode cX12_land 164 = .ok (.iload_n 1, 1) := by decide +kernel
theorem dX12_land_165 : decode cX12_land 165 = .ok (.aload_n 0, 1) := by decide +kernel
theorem dX12_land_166 : decode cX12_land 166 = .ok (.getfield 48, 3) := by decide +kernel
theorem dX12_land_169 : decode cX12_land 169 = .ok (.iload_n 1, 1) := by decide +kernel
theorem dX12_land_170 : decode cX12_land 170 = .ok (.iaload, 1) := by decide +kernel
theorem dX12_land_171 : decode cX12_land 171 = .ok (.iastore, 1) := by decide +kernel
theorem dX12_land_172 : decode cX12_land 172 = .ok (.iinc 1 1, 3) := by decide +kernel
theorem dX12_land_175 : decode cX12_land 175 = .ok (.goto (-45), 3) := by decide +kernel
theorem dX12_land_178 : decode cX12_land 178 = .ok (.iconst 0, 1) := by decide +kernel
theorem dX12_land_179 : decode cX12_land 179 = .ok (.istore_n 1, 1) := by decide +kernel
theorem dX12_land_180 : decode cX12_land 180 = .ok (.iload_n 1, 1) := by decide +kernel
theorem dX12_land_181 : decode cX12_land 181 = .ok (.bipush 91, 2) := by decide +kernel
theorem dX12_land_183 : decode cX12_land 183 = .ok (.if_icmp .ge 16, 3) := by decide +kernel
theorem dX12_land_186 : decode cX12_land 186 = .ok (.aload_n 0, 1) := by decide +kernel
theorem dX12_land_187 : decode cX12_land 187 = .ok (.getfield 99, 3) := by decide +kernel
theorem dX12_land_190 : decode cX12_land 190 = .ok (.iload_n 1, 1) := by decide +kernel
theorem dX12_land_191 : decode cX12_land 191 = .ok (.iconst 0, 1) := by decide +kernel
theorem dX12_land_192 : decode cX12_land 192 = .ok (.iastore, 1) := by decide +kernel
theorem dX12_land_193 : decode cX12_land 193 = .ok (.iinc 1 1, 3) := by decide +kernel
theorem dX12_land_196 : decode cX12_land 196 = .ok (.goto (-16), 3) := by decide +kernel
theorem dX12_land_199 : decode cX12_land 199 = .ok (.iconst 0, 1) := by decide +kernel
theorem dX12_land_200 : decode cX12_land 200 = .ok (.istore_n 1, 1) := by decide +kernel
theorem dX12_land_201 : decode cX12_land 201 = .ok (.iload_n 1, 1) := by decide +kernel
theorem dX12_land_202 : decode cX12_land 202 = .ok (.bipush 6, 2) := by decide +kernel
theorem dX12_land_204 : decode cX12_land 204 = .ok (.if_icmp .ge 94, 3) := by decide +kernel
theorem dX12_land_207 : decode cX12_land 207 = .ok (.aload_n 0, 1) := by decide +kernel
theorem dX12_land_208 : decode cX12_land 208 = .ok (.getfield 72, 3) := by decide +kernel
theorem dX12_land_211 : decode cX12_land 211 = .ok (.iload_n 1, 1) := by decide +kernel
theorem dX12_land_212 : decode cX12_land 212 = .ok (.aload_n 0, 1) := by decide +kernel
theorem dX12_land_213 : decode cX12_land 213 = .ok (.getfield 60, 3) := by decide +kernel
theorem dX12_land_216 : decode cX12_land 216 = .ok (.iload_n 1, 1) := by decide +kernel
theorem dX12_land_217 : decode cX12_land 217 = .ok (.iaload, 1) := by decide +kernel
theorem dX12_land_218 : decode cX12_land 218 = .ok (.iastore, 1) := by decide +kernel
theorem dX12_land_219 : decode cX12_land 219 = .ok (.aload_n 0, 1) := by decide +kernel
theorem dX12_land_220 : decode cX12_land 220 = .ok (.getfield 75, 3) := by decide +kernel
theorem dX12_land_223 : decode cX12_land 223 = .ok (.iload_n 1, 1) := by decide +kernel
theorem dX12_land_224 : decode cX12_land 224 = .ok (.aload_n 0, 1) := by decide +kernel
theorem dX12_land_225 : decode cX12_land 225 = .ok (.getfield 63, 3) := by decide +kernel
theorem dX12_land_228 : decode cX12_land 228 = .ok (.iload_n 1, 1) := by decide +kernel
theorem dX12_land_229 : decode cX12_land 229 = .ok (.iaload, 1) := by decide +kernel
theorem dX12_land_230 : decode cX12_land 230 = .ok (.iastore, 1) := by decide +kernel
theorem dX12_land_231 : decode cX12_land 231 = .ok (.aload_n 0, 1) := by decide +kernel
theorem dX12_land_232 : decode cX12_land 232 = .ok (.getfield 78, 3) := by decide +kernel
theorem dX12_land_235 : decode cX12_land 235 = .ok (.iload_n 1, 1) := by decide +kernel
theorem dX12_land_236 : decode cX12_land 236 = .ok (.aload_n 0, 1) := by decide +kernel
theorem dX12_land_237 : decode cX12_land 237 = .ok (.getfield 66, 3) := by decide +kernel
theorem dX12_land_240 : decode cX12_land 240 = .ok (.iload_n 1, 1) := by decide +kernel
theorem dX12_land_241 : decode cX12_land 241 = .ok (.iaload, 1) := by decide +kernel
theorem dX12_land_242 : decode cX12_land 242 = .ok (.iastore, 1) := by decide +kernel
theorem dX12_land_243 : decode cX12_land 243 = .ok (.aload_n 0, 1) := by decide +kernel
theorem dX12_land_244 : decode cX12_land 244 = .ok (.getfield 81, 3) := by decide +kernel
theorem dX12_land_247 : decode cX12_land 247 = .ok (.iload_n 1, 1) := by decide +kernel
theorem dX12_land_248 : decode cX12_land 248 = .ok (.aload_n 0, 1) := by decide +kernel
theorem dX12_land_249 : decode cX12_land 249 = .ok (.getfield 69, 3) := by decide +kernel
theorem dX12_land_252 : decode cX12_land 252 = .ok (.iload_n 1, 1) := by decide +kernel
theorem dX12_land_253 : decode cX12_land 253 = .ok (.iaload, 1) := by decide +kernel
theorem dX12_land_254 : decode cX12_land 254 = .ok (.iastore, 1) := by decide +kernel
theorem dX12_land_255 : decode cX12_land 255 = .ok (.aload_n 0, 1) := by decide +kernel
theorem dX12_land_256 : decode cX12_land 256 = .ok (.getfield 99, 3) := by decide +kernel
theorem dX12_land_259 : decode cX12_land 259 = .ok (.bipush 6, 2) := by decide +kernel
theorem dX12_land_261 : decode cX12_land 261 = .ok (.iload_n 1, 1) := by decide +kernel
theorem dX12_land_262 : decode cX12_land 262 = .ok (.iadd, 1) := by decide +kernel
theorem dX12_land_263 : decode cX12_land 263 = .ok (.iload_n 1, 1) := by decide +kernel
theorem dX12_land_264 : decode cX12_land 264 = .ok (.aload_n 0, 1) := by decide +kernel
theorem dX12_land_265 : decode cX12_land 265 = .ok (.getfield 401, 3) := by decide +kernel
theorem dX12_land_268 : decode cX12_land 268 = .ok (.if_icmp .ge 12, 3) := by decide +kernel
theorem dX12_land_271 : decode cX12_land 271 = .ok (.aload_n 0, 1) := by decide +kernel
theorem dX12_land_272 : decode cX12_land 272 = .ok (.getfield 60, 3) := by decide +kernel
theorem dX12_land_275 : decode cX12_land 275 = .ok (.iload_n 1, 1) := by decide +kernel
theorem dX12_land_276 : decode cX12_land 276 = .ok (.iaload, 1) := by decide +kernel
theorem dX12_land_277 : decode cX12_land 277 = .ok (.goto 4, 3) := by decide +kernel
theorem dX12_land_280 : decode cX12_land 280 = .ok (.iconst 0, 1) := by decide +kernel
theorem dX12_land_281 : decode cX12_land 281 = .ok (.iastore, 1) := by decide +kernel
theorem dX12_land_282 : decode cX12_land 282 = .ok (.aload_n 0, 1) := by decide +kernel
theorem dX12_land_283 : decode cX12_land 283 = .ok (.getfield 99, 3) := by decide +kernel
theorem dX12_land_286 : decode cX12_land 286 = .ok (.bipush 12, 2) := by decide +kernel
theorem dX12_land_288 : decode cX12_land 288 = .ok (.iload_n 1, 1) := by decide +kernel
theorem dX12_land_289 : decode cX12_land 289 = .ok (.iadd, 1) := by decide +kernel
theorem dX12_land_290 : decode cX12_land 290 = .ok (.iconst (-1), 1) := by decide +kernel
theorem dX12_land_291 : decode cX12_land 291 = .ok (.iastore, 1) := by decide +kernel
theorem dX12_land_292 : decode cX12_land 292 = .ok (.iinc 1 1, 3) := by decide +kernel
theorem dX12_land_295 : decode cX12_land 295 = .ok (.goto (-94), 3) := by decide +kernel
theorem dX12_land_298 : decode cX12_land 298 = .ok (.aload_n 0, 1) := by decide +kernel
theorem dX12_land_299 : decode cX12_land 299 = .ok (.getfield 99, 3) := by decide +kernel
theorem dX12_land_302 : decode cX12_land 302 = .ok (.bipush 88, 2) := by decide +kernel
theorem dX12_land_304 : decode cX12_land 304 = .ok (.aload_n 0, 1) := by decide +kernel
theorem dX12_land_305 : decode cX12_land 305 = .ok (.getfield 356, 3) := by decide +kernel
theorem dX12_land_308 : decode cX12_land 308 = .ok (.iastore, 1) := by decide +kernel
theorem dX12_land_309 : decode cX12_land 309 = .ok (.iconst 0, 1) := by decide +kernel
theorem dX12_land_310 : decode cX12_land 310 = .ok (.istore_n 1, 1) := by decide +kernel
theorem dX12_land_311 : decode cX12_land 311 = .ok (.iload_n 1, 1) := by decide +kernel
theorem dX12_land_312 : decode cX12_land 312 = .ok (.aload_n 0, 1) := by decide +kernel
theorem dX12_land_313 : decode cX12_land 313 = .ok (.getfield 356, 3) := by decide +kernel
theorem dX12_land_316 : decode cX12_land 316 = .ok (.if_icmp .ge 38, 3) := by decide +kernel
theorem dX12_land_319 : decode cX12_land 319 = .ok (.aload_n 0, 1) := by decide +kernel
theorem dX12_land_320 : decode cX12_land 320 = .ok (.iload_n 1, 1) := by decide +kernel
theorem dX12_land_321 : decode cX12_land 321 = .ok (.aload_n 0, 1) := by decide +kernel
theorem dX12_land_322 : decode cX12_land 322 = .ok (.getfield 84, 3) := by decide +kernel
theorem dX12_land_325 : decode cX12_land 325 = .ok (.iload_n 1, 1) := by decide +kernel
theorem dX12_land_326 : decode cX12_land 326 = .ok (.iaload, 1) := by decide +kernel
theorem dX12_land_327 : decode cX12_land 327 = .ok (.aload_n 0, 1) := by decide +kernel
theorem dX12_land_328 : decode cX12_land 328 = .ok (.getfield 87, 3) := by decide +kernel
theorem dX12_land_331 : decode cX12_land 331 = .ok (.iload_n 1, 1) := by decide +kernel
theorem dX12_land_332 : decode cX12_land 332 = .ok (.iaload, 1) := by decide +kernel
theorem dX12_land_333 : decode cX12_land 333 = .ok (.aload_n 0, 1) := by decide +kernel
theorem dX12_land_334 : decode cX12_land 334 = .ok (.getfield 90, 3) := by decide +kernel
theorem dX12_land_337 : decode cX12_land 337 = .ok (.iload_n 1, 1) := by decide +kernel
theorem dX12_land_338 : decode cX12_land 338 = .ok (.iaload, 1) := by decide +kernel
theorem dX12_land_339 : decode cX12_land 339 = .ok (.aload_n 0, 1) := by decide +kernel
theorem dX12_land_340 : decode cX12_land 340 = .ok (.getfield 93, 3) := by decide +kernel
theorem dX12_land_343 : decode cX12_land 343 = .ok (.iload_n 1, 1) := by decide +kernel
theorem dX12_land_344 : decode cX12_land 344 = .ok (.iaload, 1) := by decide +kernel
theorem dX12_land_345 : decode cX12_land 345 = .ok (.invokevirtual 410, 3) := by decide +kernel
theorem dX12_land_348 : decode cX12_land 348 = .ok (.iinc 1 1, 3) := by decide +kernel
theorem dX12_land_351 : decode cX12_land 351 = .ok (.goto (-40), 3) := by decide +kernel
theorem dX12_land_354 : decode cX12_land 354 = .ok (.aload_n 0, 1) := by decide +kernel
theorem dX12_land_355 : decode cX12_land 355 = .ok (.iconst 0, 1) := by decide +kernel
theorem dX12_land_356 : decode cX12_land 356 = .ok (.putfield 414, 3) := by decide +kernel
theorem dX12_land_359 : decode cX12_land 359 = .ok (.aload_n 0, 1) := by decide +kernel
theorem dX12_land_360 : decode cX12_land 360 = .ok (.iconst 0, 1) := by decide +kernel
theorem dX12_land_361 : decode cX12_land 361 = .ok (.putfield 417, 3) := by decide +kernel
theorem dX12_land_364 : decode cX12_land 364 = .ok (.aload_n 0, 1) := by decide +kernel
theorem dX12_land_365 : decode cX12_land 365 = .ok (.iconst 0, 1) := by decide +kernel
theorem dX12_land_366 : decode cX12_land 366 = .ok (.putfield 420, 3) := by decide +kernel
theorem dX12_land_369 : decode cX12_land 369 = .ok (.aload_n 0, 1) := by decide +kernel
theorem dX12_land_370 : decode cX12_land 370 = .ok (.iconst 0, 1) := by decide +kernel
theorem dX12_land_371 : decode cX12_land 371 = .ok (.putfield 423, 3) := by decide +kernel
theorem dX12_land_374 : decode cX12_land 374 = .ok (.iconst 0, 1) := by decide +kernel
theorem dX12_land_375 : decode cX12_land 375 = .ok (.istore_n 1, 1) := by decide +kernel
theorem dX12_land_376 : decode cX12_land 376 = .ok (.iload_n 1, 1) := by decide +kernel
theorem dX12_land_377 : decode cX12_land 377 = .ok (.iconst 3, 1) := by decide +kernel
theorem dX12_land_378 : decode cX12_land 378 = .ok (.if_icmp .ge 16, 3) := by decide +kernel
theorem dX12_land_381 : decode cX12_land 381 = .ok (.aload_n 0, 1) := by decide +kernel
theorem dX12_land_382 : decode cX12_land 382 = .ok (.getfield 139, 3) := by decide +kernel
theorem dX12_land_385 : decode cX12_land 385 = .ok (.iload_n 1, 1) := by decide +kernel
theorem dX12_land_386 : decode cX12_land 386 = .ok (.iconst 0, 1) := by decide +kernel
theorem dX12_land_387 : decode cX12_land 387 = .ok (.bastore, 1) := by decide +kernel
theorem dX12_land_388 : decode cX12_land 388 = .ok (.iinc 1 1, 3) := by decide +kernel
theorem dX12_land_391 : decode cX12_land 391 = .ok (.goto (-15), 3) := by decide +kernel
theorem dX12_land_394 : decode cX12_land 394 = .ok (.aload_n 0, 1) := by decide +kernel
theorem dX12_land_395 : decode cX12_land 395 = .ok (.getfield 356, 3) := by decide +kernel
theorem dX12_land_398 : decode cX12_land 398 = .ok (.ireturn, 1) := by decide +kernel
theorem dX12_layLetter_0 : decode cX12_layLetter 0 = .ok (.aload_n 0, 1) := by decide +kernel
theorem dX12_layLetter_1 : decode cX12_layLetter 1 = .ok (.getfield 99, 3) := by decide +kernel
theorem dX12_layLetter_4 : decode cX12_layLetter 4 = .ok (.bipush 18, 2) := by decide +kernel
theorem dX12_layLetter_6 : decode cX12_layLetter 6 = .ok (.iload_n 1, 1) := by decide +kernel
theorem dX12_layLetter_7 : decode cX12_layLetter 7 = .ok (.iadd, 1) := by decide +kernel
theorem dX12_layLetter_8 : decode cX12_layLetter 8 = .ok (.iload_n 2, 1) := by decide +kernel
theorem dX12_layLetter_9 : decode cX12_layLetter 9 = .ok (.iastore, 1) := by decide +kernel
theorem dX12_layLetter_10 : decode cX12_layLetter 10 = .ok (.aload_n 0, 1) := by decide +kernel
theorem dX12_layLetter_11 : decode cX12_layLetter 11 = .ok (.getfield 99, 3) := by decide +kernel
theorem dX12_layLetter_14 : decode cX12_layLetter 14 = .ok (.bipush 28, 2) := by decide +kernel
theorem dX12_layLetter_16 : decode cX12_layLetter 16 = .ok (.iload_n 1, 1) := by decide +kernel
theorem dX12_layLetter_17 : decode cX12_layLetter 17 = .ok (.iadd, 1) := by decide +kernel
theorem dX12_layLetter_18 : decode cX12_layLetter 18 = .ok (.iconst (-1), 1) := by decide +kernel
theorem dX12_layLetter_19 : decode cX12_layLetter 19 = .ok (.iastore, 1) := by decide +kernel
theorem dX12_layLetter_20 : decode cX12_layLetter 20 = .ok (.aload_n 0, 1) := by decide +kernel
theorem dX12_layLetter_21 : decode cX12_layLetter 21 = .ok (.getfield 99, 3) := by decide +kernel
theorem dX12_layLetter_24 : decode cX12_layLetter 24 = .ok (.bipush 38, 2) := by decide +kernel
theorem dX12_layLetter_26 : decode cX12_layLetter 26 = .ok (.iload_n 1, 1) := by decide +kernel
theorem dX12_layLetter_27 : decode cX12_layLetter 27 = .ok (.iadd, 1) := by decide +kernel
theorem dX12_layLetter_28 : decode cX12_layLetter 28 = .ok (.iconst (-1), 1) := by decide +kernel
theorem dX12_layLetter_29 : decode cX12_layLetter 29 = .ok (.iastore, 1) := by decide +kernel
theorem dX12_layLetter_30 : decode cX12_layLetter 30 = .ok (.aload_n 0, 1) := by decide +kernel
theorem dX12_layLetter_31 : decode cX12_layLetter 31 = .ok (.getfield 99, 3) := by decide +kernel
theorem dX12_layLetter_34 : decode cX12_layLetter 34 = .ok (.bipush 48, 2) := by decide +kernel
theorem dX12_layLetter_36 : decode cX12_layLetter 36 = .ok (.iload_n 1, 1) := by decide +kernel
theorem dX12_layLetter_37 : decode cX12_layLetter 37 = .ok (.iadd, 1) := by decide +kernel
theorem dX12_layLetter_38 : decode cX12_layLetter 38 = .ok (.iconst 0, 1) := by decide +kernel
theorem dX12_layLetter_39 : decode cX12_layLetter 39 = .ok (.iastore, 1) := by decide +kernel
theorem dX12_layLetter_40 : decode cX12_layLetter 40 = .ok (.aload_n 0, 1) := by decide +kernel
theorem dX12_layLetter_41 : decode cX12_layLetter 41 = .ok (.getfield 99, 3) := by decide +kernel
theorem dX12_layLetter_44 : decode cX12_layLetter 44 = .ok (.bipush 58, 2) := by decide +kernel
theorem dX12_layLetter_46 : decode cX12_layLetter 46 = .ok (.iload_n 1, 1) := by decide +kernel
theorem dX12_layLetter_47 : decode cX12_layLetter 47 = .ok (.iadd, 1) := by decide +kernel
theorem dX12_layLetter_48 : decode cX12_layLetter 48 = .ok (.iload_n 3, 1) := by decide +kernel
theorem dX12_layLetter_49 : decode cX12_layLetter 49 = .ok (.iastore, 1) := by decide +kernel
theorem dX12_layLetter_50 : decode cX12_layLetter 50 = .ok (.aload_n 0, 1) := by decide +kernel
theorem dX12_layLetter_51 : decode cX12_layLetter 51 = .ok (.getfield 99, 3) := by decide +kernel
theorem dX12_layLetter_54 : decode cX12_layLetter 54 = .ok (.bipush 68, 2) := by decide +kernel
theorem dX12_layLetter_56 : decode cX12_layLetter 56 = .ok (.iload_n 1, 1) := by decide +kernel
theorem dX12_layLetter_57 : decode cX12_layLetter 57 = .ok (.iadd, 1) := by decide +kernel
theorem dX12_layLetter_58 : decode cX12_layLetter 58 = .ok (.iload 4, 2) := by decide +kernel
theorem dX12_layLetter_60 : decode cX12_layLetter 60 = .ok (.iastore, 1) := by decide +kernel
theorem dX12_layLetter_61 : decode cX12_layLetter 61 = .ok (.aload_n 0, 1) := by decide +kernel
theorem dX12_layLetter_62 : decode cX12_layLetter 62 = .ok (.getfield 99, 3) := by decide +kernel
theorem dX12_layLetter_65 : decode cX12_layLetter 65 = .ok (.bipush 78, 2) := by decide +kernel
theorem dX12_layLetter_67 : decode cX12_layLetter 67 = .ok (.iload_n 1, 1) := by decide +kernel
theorem dX12_layLetter_68 : decode cX12_layLetter 68 = .ok (.iadd, 1) := by decide +kernel
theorem dX12_layLetter_69 : decode cX12_layLetter 69 = .ok (.iload 5, 2) := by decide +kernel
theorem dX12_layLetter_71 : decode cX12_layLetter 71 = .ok (.iastore, 1) := by decide +kernel
theorem dX12_layLetter_72 : decode cX12_layLetter 72 = .ok (.return_, 1) := by decide +kernel
theorem dX12_fault_0 : decode cX12_fault 0 = .ok (.iload_n 1, 1) := by decide +kernel
theorem dX12_fault_1 : decode cX12_fault 1 = .ok (.ifCond .ne 10, 3) := by decide +kernel
theorem dX12_fault_4 : decode cX12_fault 4 = .ok (.aload_n 0, 1) := by decide +kernel
theorem dX12_fault_5 : decode cX12_fault 5 = .ok (.getfield 185, 3) := by decide +kernel
theorem dX12_fault_8 : decode cX12_fault 8 = .ok (.goto 16, 3) := by decide +kernel
theorem dX12_fault_11 : decode cX12_fault 11 = .ok (.iload_n 1, 1) := by decide +kernel
theorem dX12_fault_12 : decode cX12_fault 12 = .ok (.iconst 1, 1) := by decide +kernel
theorem dX12_fault_13 : decode cX12_fault 13 = .ok (.if_icmp .ne 10, 3) := by decide +kernel
theorem dX12_fault_16 : decode cX12_fault 16 = .ok (.aload_n 0, 1) := by decide +kernel
theorem dX12_fault_17 : decode cX12_fault 17 = .ok (.getfield 13, 3) := by decide +kernel
theorem dX12_fault_20 : decode cX12_fault 20 = .ok (.goto 4, 3) := by decide +kernel
theorem dX12_fault_23 : decode cX12_fault 23 = .ok (.iconst (-1), 1) := by decide +kernel
theorem dX12_fault_24 : decode cX12_fault 24 = .ok (.ireturn, 1) := by decide +kernel
theorem dX12_isIn_0 : decode cX12_isIn 0 = .ok (.iload_n 0, 1) := by decide +kernel
theorem dX12_isIn_1 : decode cX12_isIn 1 = .ok (.iload_n 1, 1) := by decide +kernel
theorem dX12_isIn_2 : decode cX12_isIn 2 = .ok (.if_icmp .lt 12, 3) := by decide +kernel
theorem dX12_isIn_5 : decode cX12_isIn 5 = .ok (.iload_n 0, 1) := by decide +kernel
theorem dX12_isIn_6 : decode cX12_isIn 6 = .ok (.iload_n 2, 1) := by decide +kernel
theorem dX12_isIn_7 : decode cX12_isIn 7 = .ok (.if_icmp .gt 7, 3) := by decide +kernel
theorem dX12_isIn_10 : decode cX12_isIn 10 = .ok (.iconst 1, 1) := by decide +kernel
theorem dX12_isIn_11 : decode cX12_isIn 11 = .ok (.goto 4, 3) := by decide +kernel
theorem dX12_isIn_14 : decode cX12_isIn 14 = .ok (.iconst 0, 1) := by decide +kernel
theorem dX12_isIn_15 : decode cX12_isIn 15 = .ok (.ireturn, 1) := by decide +kernel
theorem dX12_isVillage_0 : decode cX12_isVillage 0 = .ok (.iload_n 1, 1) := by decide +kernel
theorem dX12_isVillage_1 : decode cX12_isVillage 1 = .ok (.iconst 0, 1) := by decide +kernel
theorem dX12_isVillage_2 : decode cX12_isVillage 2 = .ok (.aload_n 0, 1) := by decide +kernel
theorem dX12_isVillage_3 : decode cX12_isVillage 3 = .ok (.getfield 395, 3) := by decide +kernel
theorem dX12_isVillage_6 : decode cX12_isVillage 6 = .ok (.iconst 1, 1) := by decide +kernel
theorem dX12_isVillage_7 : decode cX12_isVillage 7 = .ok (.isub, 1) := by decide +kernel
theorem dX12_isVillage_8 : decode cX12_isVillage 8 = .ok (.invokestatic 426, 3) := by decide +kernel
theorem dX12_isVillage_11 : decode cX12_isVillage 11 = .ok (.ireturn, 1) := by decide +kernel
theorem dX12_isBier_0 : decode cX12_isBier 0 = .ok (.iload_n 1, 1) := by decide +kernel
theorem dX12_isBier_1 : decode cX12_isBier 1 = .ok (.iconst 0, 1) := by decide +kernel
theorem dX12_isBier_2 : decode cX12_isBier 2 = .ok (.aload_n 0, 1) := by decide +kernel
theorem dX12_isBier_3 : decode cX12_isBier 3 = .ok (.getfield 401, 3) := by decide +kernel
theorem dX12_isBier_6 : decode cX12_isBier 6 = .ok (.iconst 1, 1) := by decide +kernel
theorem dX12_isBier_7 : decode cX12_isBier 7 = .ok (.isub, 1) := by decide +kernel
theorem dX12_isBier_8 : decode cX12_isBier 8 = .ok (.invokestatic 426, 3) := by decide +kernel
theorem dX12_isBier_11 : decode cX12_isBier 11 = .ok (.ireturn, 1) := by decide +kernel
theorem dX12_isPosted_0 : decode cX12_isPosted 0 = .ok (.iload_n 1, 1) := by decide +kernel
theorem dX12_isPosted_1 : decode cX12_isPosted 1 = .ok (.iconst 0, 1) := by decide +kernel
theorem dX12_isPosted_2 : decode cX12_isPosted 2 = .ok (.aload_n 0, 1) := by decide +kernel
theorem dX12_isPosted_3 : decode cX12_isPosted 3 = .ok (.getfield 99, 3) := by decide +kernel
theorem dX12_isPosted_6 : decode cX12_isPosted 6 = .ok (.bipush 88, 2) := by decide +kernel
theorem dX12_isPosted_8 : decode cX12_isPosted 8 = .ok (.iaload, 1) := by decide +kernel
theorem dX12_isPosted_9 : decode cX12_isPosted 9 = .ok (.iconst 1, 1) := by decide +kernel
theorem dX12_isPosted_10 : decode cX12_isPosted 10 = .ok (.isub, 1) := by decide +kernel
theorem dX12_isPosted_11 : decode cX12_isPosted 11 = .ok (.invokestatic 426, 3) := by decide +kernel
theorem dX12_isPosted_14 : decode cX12_isPosted 14 = .ok (.ireturn, 1) := by decide +kernel
theorem dX12_isClosed_0 : decode cX12_isClosed 0 = .ok (.aload_n 0, 1) := by decide +kernel
theorem dX12_isClosed_1 : decode cX12_isClosed 1 = .ok (.getfield 102, 3) := by decide +kernel
theorem dX12_isClosed_4 : decode cX12_isClosed 4 = .ok (.bipush 89, 2) := by decide +kernel
theorem dX12_isClosed_6 : decode cX12_isClosed 6 = .ok (.iaload, 1) := by decide +kernel
theorem dX12_isClosed_7 : decode cX12_isClosed 7 = .ok (.iload_n 1, 1) := by decide +kernel
theorem dX12_isClosed_8 : decode cX12_isClosed 8 = .ok (.ishr, 1) := by decide +kernel
theorem dX12_isClosed_9 : decode cX12_isClosed 9 = .ok (.iconst 1, 1) := by decide +kernel
theorem dX12_isClosed_10 : decode cX12_isClosed 10 = .ok (.iand, 1) := by decide +kernel
theorem dX12_isClosed_11 : decode cX12_isClosed 11 = .ok (.iconst 1, 1) := by decide +kernel
theorem dX12_isClosed_12 : decode cX12_isClosed 12 = .ok (.if_icmp .ne 7, 3) := by decide +kernel
theorem dX12_isClosed_15 : decode cX12_isClosed 15 = .ok (.iconst 1, 1) := by decide +kernel
theorem dX12_isClosed_16 : decode cX12_isClosed 16 = .ok (.goto 4, 3) := by decide +kernel
theorem dX12_isClosed_19 : decode cX12_isClosed 19 = .ok (.iconst 0, 1) := by decide +kernel
theorem dX12_isClosed_20 : decode cX12_isClosed 20 = .ok (.ireturn, 1) := by decide +kernel
theorem dX12_layFar_0 : decode cX12_layFar 0 = .ok (.iconst 0, 1) := by decide +kernel
theorem dX12_layFar_1 : decode cX12_layFar 1 = .ok (.istore_n 1, 1) := by decide +kernel
theorem dX12_layFar_2 : decode cX12_layFar 2 = .ok (.iload_n 1, 1) := by decide +kernel
theorem dX12_layFar_3 : decode cX12_layFar 3 = .ok (.bipush 49, 2) := by decide +kernel
theorem dX12_layFar_5 : decode cX12_layFar 5 = .ok (.if_icmp .ge 29, 3) := by decide +kernel
theorem dX12_layFar_8 : decode cX12_layFar 8 = .ok (.aload_n 0, 1) := by decide +kernel
theorem dX12_layFar_9 : decode cX12_layFar 9 = .ok (.getfield 105, 3) := by decide +kernel
theorem dX12_layFar_12 : decode cX12_layFar 12 = .ok (.iload_n 1, 1) := by decide +kernel
theorem dX12_layFar_13 : decode cX12_layFar 13 = .ok (.iload_n 1, 1) := by decide +kernel
theorem dX12_layFar_14 : decode cX12_layFar 14 = .ok (.bipush 8, 2) := by decide +kernel
theorem dX12_layFar_16 : decode cX12_layFar 16 = .ok (.irem, 1) := by decide +kernel
theorem dX12_layFar_17 : decode cX12_layFar 17 = .ok (.ifCond .ne 7, 3) := by decide +kernel
theorem dX12_layFar_20 : decode cX12_layFar 20 = .ok (.iconst 0, 1) := by decide +kernel
