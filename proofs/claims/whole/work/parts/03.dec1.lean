theorem dX0_init_0 : decode cX0_init 0 = .ok (.aload_n 0, 1) := by decide +kernel
theorem dX0_init_1 : decode cX0_init 1 = .ok (.invokespecial 3, 3) := by decide +kernel
theorem dX0_init_4 : decode cX0_init 4 = .ok (.aload_n 0, 1) := by decide +kernel
theorem dX0_init_5 : decode cX0_init 5 = .ok (.new 9, 3) := by decide +kernel
theorem dX0_init_8 : decode cX0_init 8 = .ok (.dup, 1) := by decide +kernel
theorem dX0_init_9 : decode cX0_init 9 = .ok (.invokespecial 11, 3) := by decide +kernel
theorem dX0_init_12 : decode cX0_init 12 = .ok (.putfield 12, 3) := by decide +kernel
theorem dX0_init_15 : decode cX0_init 15 = .ok (.aload_n 0, 1) := by decide +kernel
theorem dX0_init_16 : decode cX0_init 16 = .ok (.aload_n 1, 1) := by decide +kernel
theorem dX0_init_17 : decode cX0_init 17 = .ok (.putfield 18, 3) := by decide +kernel
theorem dX0_init_20 : decode cX0_init 20 = .ok (.return_, 1) := by decide +kernel
theorem dX0_goBy_0 : decode cX0_goBy 0 = .ok (.aload_n 0, 1) := by decide +kernel
theorem dX0_goBy_1 : decode cX0_goBy 1 = .ok (.aload_n 1, 1) := by decide +kernel
theorem dX0_goBy_2 : decode cX0_goBy 2 = .ok (.invokevirtual 22, 3) := by decide +kernel
theorem dX0_goBy_5 : decode cX0_goBy 5 = .ok (.aload_n 1, 1) := by decide +kernel
theorem dX0_goBy_6 : decode cX0_goBy 6 = .ok (.invokestatic 26, 3) := by decide +kernel
theorem dX0_goBy_9 : decode cX0_goBy 9 = .ok (.istore_n 2, 1) := by decide +kernel
theorem dX0_goBy_10 : decode cX0_goBy 10 = .ok (.aload_n 0, 1) := by decide +kernel
theorem dX0_goBy_11 : decode cX0_goBy 11 = .ok (.aload_n 1, 1) := by decide +kernel
theorem dX0_goBy_12 : decode cX0_goBy 12 = .ok (.invokevirtual 30, 3) := by decide +kernel
theorem dX0_goBy_15 : decode cX0_goBy 15 = .ok (.aload_n 0, 1) := by decide +kernel
theorem dX0_goBy_16 : decode cX0_goBy 16 = .ok (.aload_n 1, 1) := by decide +kernel
theorem dX0_goBy_17 : decode cX0_goBy 17 = .ok (.invokevirtual 33, 3) := by decide +kernel
theorem dX0_goBy_20 : decode cX0_goBy 20 = .ok (.iload_n 2, 1) := by decide +kernel
theorem dX0_goBy_21 : decode cX0_goBy 21 = .ok (.ireturn, 1) := by decide +kernel
theorem dX0_arrive_0 : decode cX0_arrive 0 = .ok (.iconst 0, 1) := by decide +kernel
theorem dX0_arrive_1 : decode cX0_arrive 1 = .ok (.istore_n 2, 1) := by decide +kernel
theorem dX0_arrive_2 : decode cX0_arrive 2 = .ok (.iload_n 2, 1) := by decide +kernel
theorem dX0_arrive_3 : decode cX0_arrive 3 = .ok (.aload_n 0, 1) := by decide +kernel
theorem dX0_arrive_4 : decode cX0_arrive 4 = .ok (.getfield 18, 3) := by decide +kernel
theorem dX0_arrive_7 : decode cX0_arrive 7 = .ok (.getfield 36, 3) := by decide +kernel
theorem dX0_arrive_10 : decode cX0_arrive 10 = .ok (.if_icmp .ge 128, 3) := by decide +kernel
theorem dX0_arrive_13 : decode cX0_arrive 13 = .ok (.aload_n 1, 1) := by decide +kernel
theorem dX0_arrive_14 : decode cX0_arrive 14 = .ok (.getfield 42, 3) := by decide +kernel
theorem dX0_arrive_17 : decode cX0_arrive 17 = .ok (.iload_n 2, 1) := by decide +kernel
theorem dX0_arrive_18 : decode cX0_arrive 18 = .ok (.iaload, 1) := by decide +kernel
theorem dX0_arrive_19 : decode cX0_arrive 19 = .ok (.istore_n 3, 1) := by decide +kernel
theorem dX0_arrive_20 : decode cX0_arrive 20 = .ok (.iload_n 3, 1) := by decide +kernel
theorem dX0_arrive_21 : decode cX0_arrive 21 = .ok (.ifCond .ne 23, 3) := by decide +kernel
theorem dX0_arrive_24 : decode cX0_arrive 24 = .ok (.aload_n 0, 1) := by decide +kernel
theorem dX0_arrive_25 : decode cX0_arrive 25 = .ok (.getfield 18, 3) := by decide +kernel
theorem dX0_arrive_28 : decode cX0_arrive 28 = .ok (.getfield 48, 3) := by decide +kernel
theorem dX0_arrive_31 : decode cX0_arrive 31 = .ok (.iload_n 2, 1) := by decide +kernel
theorem dX0_arrive_32 : decode cX0_arrive 32 = .ok (.iaload, 1) := by decide +kernel
theorem dX0_arrive_33 : decode cX0_arrive 33 = .ok (.aload_n 1, 1) := by decide +kernel
theorem dX0_arrive_34 : decode cX0_arrive 34 = .ok (.getfield 51, 3) := by decide +kernel
theorem dX0_arrive_37 : decode cX0_arrive 37 = .ok (.if_icmp .ne 7, 3) := by decide +kernel
theorem dX0_arrive_40 : decode cX0_arrive 40 = .ok (.iconst 1, 1) := by decide +kernel
theorem dX0_arrive_41 : decode cX0_arrive 41 = .ok (.goto 4, 3) := by decide +kernel
theorem dX0_arrive_44 : decode cX0_arrive 44 = .ok (.iconst 0, 1) := by decide +kernel
theorem dX0_arrive_45 : decode cX0_arrive 45 = .ok (.istore 4, 2) := by decide +kernel
theorem dX0_arrive_47 : decode cX0_arrive 47 = .ok (.iload_n 3, 1) := by decide +kernel
theorem dX0_arrive_48 : decode cX0_arrive 48 = .ok (.iconst 2, 1) := by decide +kernel
theorem dX0_arrive_49 : decode cX0_arrive 49 = .ok (.if_icmp .ne 20, 3) := by decide +kernel
theorem dX0_arrive_52 : decode cX0_arrive 52 = .ok (.aload_n 1, 1) := by decide +kernel
theorem dX0_arrive_53 : decode cX0_arrive 53 = .ok (.getfield 54, 3) := by decide +kernel
theorem dX0_arrive_56 : decode cX0_arrive 56 = .ok (.iload_n 2, 1) := by decide +kernel
theorem dX0_arrive_57 : decode cX0_arrive 57 = .ok (.iaload, 1) := by decide +kernel
theorem dX0_arrive_58 : decode cX0_arrive 58 = .ok (.aload_n 1, 1) := by decide +kernel
theorem dX0_arrive_59 : decode cX0_arrive 59 = .ok (.getfield 51, 3) := by decide +kernel
theorem dX0_arrive_62 : decode cX0_arrive 62 = .ok (.if_icmp .ne 7, 3) := by decide +kernel
theorem dX0_arrive_65 : decode cX0_arrive 65 = .ok (.iconst 1, 1) := by decide +kernel
theorem dX0_arrive_66 : decode cX0_arrive 66 = .ok (.goto 4, 3) := by decide +kernel
theorem dX0_arrive_69 : decode cX0_arrive 69 = .ok (.iconst 0, 1) := by decide +kernel
theorem dX0_arrive_70 : decode cX0_arrive 70 = .ok (.istore 5, 2) := by decide +kernel
theorem dX0_arrive_72 : decode cX0_arrive 72 = .ok (.iload 4, 2) := by decide +kernel
theorem dX0_arrive_74 : decode cX0_arrive 74 = .ok (.ifCond .ne 8, 3) := by decide +kernel
theorem dX0_arrive_77 : decode cX0_arrive 77 = .ok (.iload 5, 2) := by decide +kernel
theorem dX0_arrive_79 : decode cX0_arrive 79 = .ok (.ifCond .eq 53, 3) := by decide +kernel
theorem dX0_arrive_82 : decode cX0_arrive 82 = .ok (.aload_n 1, 1) := by decide +kernel
theorem dX0_arrive_83 : decode cX0_arrive 83 = .ok (.getfield 57, 3) := by decide +kernel
theorem dX0_arrive_86 : decode cX0_arrive 86 = .ok (.iload_n 2, 1) := by decide +kernel
theorem dX0_arrive_87 : decode cX0_arrive 87 = .ok (.iaload, 1) := by decide +kernel
theorem dX0_arrive_88 : decode cX0_arrive 88 = .ok (.aload_n 0, 1) := by decide +kernel
theorem dX0_arrive_89 : decode cX0_arrive 89 = .ok (.getfield 18, 3) := by decide +kernel
theorem dX0_arrive_92 : decode cX0_arrive 92 = .ok (.getfield 60, 3) := by decide +kernel
theorem dX0_arrive_95 : decode cX0_arrive 95 = .ok (.iload_n 2, 1) := by decide +kernel
theorem dX0_arrive_96 : decode cX0_arrive 96 = .ok (.iaload, 1) := by decide +kernel
theorem dX0_arrive_97 : decode cX0_arrive 97 = .ok (.if_icmp .ne 11, 3) := by decide +kernel
theorem dX0_arrive_100 : decode cX0_arrive 100 = .ok (.aload_n 1, 1) := by decide +kernel
theorem dX0_arrive_101 : decode cX0_arrive 101 = .ok (.iload_n 2, 1) := by decide +kernel
theorem dX0_arrive_102 : decode cX0_arrive 102 = .ok (.invokestatic 63, 3) := by decide +kernel
theorem dX0_arrive_105 : decode cX0_arrive 105 = .ok (.goto 27, 3) := by decide +kernel
theorem dX0_arrive_108 : decode cX0_arrive 108 = .ok (.aload_n 1, 1) := by decide +kernel
theorem dX0_arrive_109 : decode cX0_arrive 109 = .ok (.getfield 42, 3) := by decide +kernel
theorem dX0_arrive_112 : decode cX0_arrive 112 = .ok (.iload_n 2, 1) := by decide +kernel
theorem dX0_arrive_113 : decode cX0_arrive 113 = .ok (.iconst 1, 1) := by decide +kernel
theorem dX0_arrive_114 : decode cX0_arrive 114 = .ok (.iastore, 1) := by decide +kernel
theorem dX0_arrive_115 : decode cX0_arrive 115 = .ok (.aload_n 1, 1) := by decide +kernel
theorem dX0_arrive_116 : decode cX0_arrive 116 = .ok (.getfield 54, 3) := by decide +kernel
theorem dX0_arrive_119 : decode cX0_arrive 119 = .ok (.iload_n 2, 1) := by decide +kernel
theorem dX0_arrive_120 : decode cX0_arrive 120 = .ok (.aload_n 1, 1) := by decide +kernel
theorem dX0_arrive_121 : decode cX0_arrive 121 = .ok (.getfield 51, 3) := by decide +kernel
theorem dX0_arrive_124 : decode cX0_arrive 124 = .ok (.aload_n 0, 1) := by decide +kernel
theorem dX0_arrive_125 : decode cX0_arrive 125 = .ok (.aload_n 1, 1) := by decide +kernel
theorem dX0_arrive_126 : decode cX0_arrive 126 = .ok (.iload_n 2, 1) := by decide +kernel
theorem dX0_arrive_127 : decode cX0_arrive 127 = .ok (.invokevirtual 67, 3) := by decide +kernel
theorem dX0_arrive_130 : decode cX0_arrive 130 = .ok (.iadd, 1) := by decide +kernel
theorem dX0_arrive_131 : decode cX0_arrive 131 = .ok (.iastore, 1) := by decide +kernel
theorem dX0_arrive_132 : decode cX0_arrive 132 = .ok (.iinc 2 1, 3) := by decide +kernel
theorem dX0_arrive_135 : decode cX0_arrive 135 = .ok (.goto (-133), 3) := by decide +kernel
theorem dX0_arrive_138 : decode cX0_arrive 138 = .ok (.return_, 1) := by decide +kernel
theorem dX0_depart_0 : decode cX0_depart 0 = .ok (.aload_n 0, 1) := by decide +kernel
theorem dX0_depart_1 : decode cX0_depart 1 = .ok (.getfield 18, 3) := by decide +kernel
theorem dX0_depart_4 : decode cX0_depart 4 = .ok (.aload_n 1, 1) := by decide +kernel
theorem dX0_depart_5 : decode cX0_depart 5 = .ok (.getfield 51, 3) := by decide +kernel
theorem dX0_depart_8 : decode cX0_depart 8 = .ok (.invokevirtual 71, 3) := by decide +kernel
theorem dX0_depart_11 : decode cX0_depart 11 = .ok (.istore_n 2, 1) := by decide +kernel
theorem dX0_depart_12 : decode cX0_depart 12 = .ok (.iconst 0, 1) := by decide +kernel
theorem dX0_depart_13 : decode cX0_depart 13 = .ok (.istore_n 3, 1) := by decide +kernel
theorem dX0_depart_14 : decode cX0_depart 14 = .ok (.iload_n 3, 1) := by decide +kernel
theorem dX0_depart_15 : decode cX0_depart 15 = .ok (.aload_n 0, 1) := by decide +kernel
theorem dX0_depart_16 : decode cX0_depart 16 = .ok (.getfield 18, 3) := by decide +kernel
theorem dX0_depart_19 : decode cX0_depart 19 = .ok (.getfield 36, 3) := by decide +kernel
theorem dX0_depart_22 : decode cX0_depart 22 = .ok (.if_icmp .ge 96, 3) := by decide +kernel
theorem dX0_depart_25 : decode cX0_depart 25 = .ok (.aload_n 1, 1) := by decide +kernel
theorem dX0_depart_26 : decode cX0_depart 26 = .ok (.iload_n 3, 1) := by decide +kernel
theorem dX0_depart_27 : decode cX0_depart 27 = .ok (.invokevirtual 75, 3) := by decide +kernel
theorem dX0_depart_30 : decode cX0_depart 30 = .ok (.istore 4, 2) := by decide +kernel
theorem dX0_depart_32 : decode cX0_depart 32 = .ok (.aload_n 0, 1) := by decide +kernel
theorem dX0_depart_33 : decode cX0_depart 33 = .ok (.getfield 12, 3) := by decide +kernel
theorem dX0_depart_36 : decode cX0_depart 36 = .ok (.iload 4, 2) := by decide +kernel
theorem dX0_depart_38 : decode cX0_depart 38 = .ok (.aload_n 0, 1) := by decide +kernel
theorem dX0_depart_39 : decode cX0_depart 39 = .ok (.getfield 18, 3) := by decide +kernel
theorem dX0_depart_42 : decode cX0_depart 42 = .ok (.getfield 60, 3) := by decide +kernel
theorem dX0_depart_45 : decode cX0_depart 45 = .ok (.iload_n 3, 1) := by decide +kernel
theorem dX0_depart_46 : decode cX0_depart 46 = .ok (.iaload, 1) := by decide +kernel
theorem dX0_depart_47 : decode cX0_depart 47 = .ok (.invokevirtual 79, 3) := by decide +kernel
theorem dX0_depart_50 : decode cX0_depart 50 = .ok (.istore 5, 2) := by decide +kernel
theorem dX0_depart_52 : decode cX0_depart 52 = .ok (.iload_n 2, 1) := by decide +kernel
theorem dX0_depart_53 : decode cX0_depart 53 = .ok (.ifCond .ne 59, 3) := by decide +kernel
theorem dX0_depart_56 : decode cX0_depart 56 = .ok (.iload 5, 2) := by decide +kernel
theorem dX0_depart_58 : decode cX0_depart 58 = .ok (.iconst (-1), 1) := by decide +kernel
theorem dX0_depart_59 : decode cX0_depart 59 = .ok (.if_icmp .eq 53, 3) := by decide +kernel
theorem dX0_depart_62 : decode cX0_depart 62 = .ok (.aload_n 1, 1) := by decide +kernel
theorem dX0_depart_63 : decode cX0_depart 63 = .ok (.getfield 54, 3) := by decide +kernel
theorem dX0_depart_66 : decode cX0_depart 66 = .ok (.iload_n 3, 1) := by decide +kernel
theorem dX0_depart_67 : decode cX0_depart 67 = .ok (.iaload, 1) := by decide +kernel
theorem dX0_depart_68 : decode cX0_depart 68 = .ok (.aload_n 1, 1) := by decide +kernel
theorem dX0_depart_69 : decode cX0_depart 69 = .ok (.getfield 51, 3) := by decide +kernel
theorem dX0_depart_72 : decode cX0_depart 72 = .ok (.if_icmp .gt 40, 3) := by decide +kernel
theorem dX0_depart_75 : decode cX0_depart 75 = .ok (.aload_n 1, 1) := by decide +kernel
theorem dX0_depart_76 : decode cX0_depart 76 = .ok (.getfield 42, 3) := by decide +kernel
theorem dX0_depart_79 : decode cX0_depart 79 = .ok (.iload_n 3, 1) := by decide +kernel
theorem dX0_depart_80 : decode cX0_depart 80 = .ok (.iconst 2, 1) := by decide +kernel
theorem dX0_depart_81 : decode cX0_depart 81 = .ok (.iastore, 1) := by decide +kernel
theorem dX0_depart_82 : decode cX0_depart 82 = .ok (.aload_n 1, 1) := by decide +kernel
theorem dX0_depart_83 : decode cX0_depart 83 = .ok (.getfield 54, 3) := by decide +kernel
theorem dX0_depart_86 : decode cX0_depart 86 = .ok (.iload_n 3, 1) := by decide +kernel
theorem dX0_depart_87 : decode cX0_depart 87 = .ok (.aload_n 1, 1) := by decide +kernel
theorem dX0_depart_88 : decode cX0_depart 88 = .ok (.getfield 51, 3) := by decide +kernel
theorem dX0_depart_91 : decode cX0_depart 91 = .ok (.aload_n 0, 1) := by decide +kernel
theorem dX0_depart_92 : decode cX0_depart 92 = .ok (.getfield 12, 3) := by decide +kernel
theorem dX0_depart_95 : decode cX0_depart 95 = .ok (.iload 4, 2) := by decide +kernel
theorem dX0_depart_97 : decode cX0_depart 97 = .ok (.iload 5, 2) := by decide +kernel
theorem dX0_depart_99 : decode cX0_depart 99 = .ok (.invokevirtual 83, 3) := by decide +kernel
theorem dX0_depart_102 : decode cX0_depart 102 = .ok (.iadd, 1) := by decide +kernel
theorem dX0_depart_103 : decode cX0_depart 103 = .ok (.iastore, 1) := by decide +kernel
theorem dX0_depart_104 : decode cX0_depart 104 = .ok (.aload_n 1, 1) := by decide +kernel
theorem dX0_depart_105 : decode cX0_depart 105 = .ok (.getfield 57, 3) := by decide +kernel
theorem dX0_depart_108 : decode cX0_depart 108 = .ok (.iload_n 3, 1) := by decide +kernel
theorem dX0_depart_109 : decode cX0_depart 109 = .ok (.iload 5, 2) := by decide +kernel
theorem dX0_depart_111 : decode cX0_depart 111 = .ok (.iastore, 1) := by decide +kernel
theorem dX0_depart_112 : decode cX0_depart 112 = .ok (.iinc 3 1, 3) := by decide +kernel
theorem dX0_depart_115 : decode cX0_depart 115 = .ok (.goto (-101), 3) := by decide +kernel
theorem dX0_depart_118 : decode cX0_depart 118 = .ok (.aload_n 1, 1) := by decide +kernel
theorem dX0_depart_119 : decode cX0_depart 119 = .ok (.dup, 1) := by decide +kernel
theorem dX0_depart_120 : decode cX0_depart 120 = .ok (.getfield 51, 3) := by decide +kernel
theorem dX0_depart_123 : decode cX0_depart 123 = .ok (.iconst 1, 1) := by decide +kernel
theorem dX0_depart_124 : decode cX0_depart 124 = .ok (.iadd, 1) := by decide +kernel
theorem dX0_depart_125 : decode cX0_depart 125 = .ok (.putfield 51, 3) := by decide +kernel
theorem dX0_depart_128 : decode cX0_depart 128 = .ok (.return_, 1) := by decide +kernel
theorem dX0_isStill_0 : decode cX0_isStill 0 = .ok (.iconst 0, 1) := by decide +kernel
theorem dX0_isStill_1 : decode cX0_isStill 1 = .ok (.istore_n 2, 1) := by decide +kernel
theorem dX0_isStill_2 : decode cX0_isStill 2 = .ok (.iload_n 2, 1) := by decide +kernel
theorem dX0_isStill_3 : decode cX0_isStill 3 = .ok (.aload_n 0, 1) := by decide +kernel
theorem dX0_isStill_4 : decode cX0_isStill 4 = .ok (.getfield 18, 3) := by decide +kernel
theorem dX0_isStill_7 : decode cX0_isStill 7 = .ok (.getfield 36, 3) := by decide +kernel
theorem dX0_isStill_10 : decode cX0_isStill 10 = .ok (.if_icmp .ge 65, 3) := by decide +kernel
theorem dX0_isStill_13 : decode cX0_isStill 13 = .ok (.aload_n 1, 1) := by decide +kernel
theorem dX0_isStill_14 : decode cX0_isStill 14 = .ok (.iload_n 2, 1) := by decide +kernel
theorem dX0_isStill_15 : decode cX0_isStill 15 = .ok (.invokevirtual 75, 3) := by decide +kernel
theorem dX0_isStill_18 : decode cX0_isStill 18 = .ok (.istore_n 3, 1) := by decide +kernel
theorem dX0_isStill_19 : decode cX0_isStill 19 = .ok (.iload_n 3, 1) := by decide +kernel
theorem dX0_isStill_20 : decode cX0_isStill 20 = .ok (.iconst (-1), 1) := by decide +kernel
theorem dX0_isStill_21 : decode cX0_isStill 21 = .ok (.if_icmp .eq 28, 3) := by decide +kernel
theorem dX0_isStill_24 : decode cX0_isStill 24 = .ok (.aload_n 0, 1) := by decide +kernel
theorem dX0_isStill_25 : decode cX0_isStill 25 = .ok (.getfield 12, 3) := by decide +kernel
theorem dX0_isStill_28 : decode cX0_isStill 28 = .ok (.iload_n 3, 1) := by decide +kernel
theorem dX0_isStill_29 : decode cX0_isStill 29 = .ok (.aload_n 0, 1) := by decide +kernel
theorem dX0_isStill_30 : decode cX0_isStill 30 = .ok (.getfield 18, 3) := by decide +kernel
theorem dX0_isStill_33 : decode cX0_isStill 33 = .ok (.getfield 60, 3) := by decide +kernel
theorem dX0_isStill_36 : decode cX0_isStill 36 = .ok (.iload_n 2, 1) := by decide +kernel
theorem dX0_isStill_37 : decode cX0_isStill 37 = .ok (.iaload, 1) := by decide +kernel
theorem dX0_isStill_38 : decode cX0_isStill 38 = .ok (.invokevirtual 79, 3) := by decide +kernel
theorem dX0_isStill_41 : decode cX0_isStill 41 = .ok (.iconst (-1), 1) := by decide +kernel
theorem dX0_isStill_42 : decode cX0_isStill 42 = .ok (.if_icmp .ne 7, 3) := by decide +kernel
theorem dX0_isStill_45 : decode cX0_isStill 45 = .ok (.iconst 1, 1) := by decide +kernel
theorem dX0_isStill_46 : decode cX0_isStill 46 = .ok (.goto 4, 3) := by decide +kernel
theorem dX0_isStill_49 : decode cX0_isStill 49 = .ok (.iconst 0, 1) := by decide +kernel
theorem dX0_isStill_50 : decode cX0_isStill 50 = .ok (.istore 4, 2) := by decide +kernel
theorem dX0_isStill_52 : decode cX0_isStill 52 = .ok (.aload_n 1, 1) := by decide +kernel
theorem dX0_isStill_53 : decode cX0_isStill 53 = .ok (.getfield 42, 3) := by decide +kernel
theorem dX0_isStill_56 : decode cX0_isStill 56 = .ok (.iload_n 2, 1) := by decide +kernel
theorem dX0_isStill_57 : decode cX0_isStill 57 = .ok (.iaload, 1) := by decide +kernel
theorem dX0_isStill_58 : decode cX0_isStill 58 = .ok (.iconst 3, 1) := by decide +kernel
theorem dX0_isStill_59 : decode cX0_isStill 59 = .ok (.if_icmp .eq 10, 3) := by decide +kernel
theorem dX0_isStill_62 : decode cX0_isStill 62 = .ok (.iload 4, 2) := by decide +kernel
theorem dX0_isStill_64 : decode cX0_isStill 64 = .ok (.ifCond .ne 5, 3) := by decide +kernel
theorem dX0_isStill_67 : decode cX0_isStill 67 = .ok (.iconst 0, 1) := by decide +kernel
theorem dX0_isStill_68 : decode cX0_isStill 68 = .ok (.ireturn, 1) := by decide +kernel
theorem dX0_isStill_69 : decode cX0_isStill 69 = .ok (.iinc 2 1, 3) := by decide +kernel
theorem dX0_isStill_72 : decode cX0_isStill 72 = .ok (.goto (-70), 3) := by decide +kernel
theorem dX0_isStill_75 : decode cX0_isStill 75 = .ok (.iconst 1, 1) := by decide +kernel
theorem dX0_isStill_76 : decode cX0_isStill 76 = .ok (.ireturn, 1) := by decide +kernel
theorem dX0_restOf_0 : decode cX0_restOf 0 = .ok (.aload_n 0, 1) := by decide +kernel
theorem dX0_restOf_1 : decode cX0_restOf 1 = .ok (.getfield 12, 3) := by decide +kernel
theorem dX0_restOf_4 : decode cX0_restOf 4 = .ok (.aload_n 1, 1) := by decide +kernel
theorem dX0_restOf_5 : decode cX0_restOf 5 = .ok (.iload_n 2, 1) := by decide +kernel
theorem dX0_restOf_6 : decode cX0_restOf 6 = .ok (.invokevirtual 75, 3) := by decide +kernel
theorem dX0_restOf_9 : decode cX0_restOf 9 = .ok (.aload_n 0, 1) := by decide +kernel
theorem dX0_restOf_10 : decode cX0_restOf 10 = .ok (.getfield 18, 3) := by decide +kernel
theorem dX0_restOf_13 : decode cX0_restOf 13 = .ok (.getfield 60, 3) := by decide +kernel
theorem dX0_restOf_16 : decode cX0_restOf 16 = .ok (.iload_n 2, 1) := by decide +kernel
theorem dX0_restOf_17 : decode cX0_restOf 17 = .ok (.invokestatic 86, 3) := by decide +kernel
theorem dX0_restOf_20 : decode cX0_restOf 20 = .ok (.invokevirtual 90, 3) := by decide +kernel
theorem dX0_restOf_23 : decode cX0_restOf 23 = .ok (.ireturn, 1) := by decide +kernel
theorem dX0_stay_0 : decode cX0_stay 0 = .ok (.aload_n 1, 1) := by decide +kernel
theorem dX0_stay_1 : decode cX0_stay 1 = .ok (.getfield 57, 3) := by decide +kernel
theorem dX0_stay_4 : decode cX0_stay 4 = .ok (.iload_n 2, 1) := by decide +kernel
theorem dX0_stay_5 : decode cX0_stay 5 = .ok (.iaload, 1) := by decide +kernel
theorem dX0_stay_6 : decode cX0_stay 6 = .ok (.istore_n 3, 1) := by decide +kernel
theorem dX0_stay_7 : decode cX0_stay 7 = .ok (.aload_n 0, 1) := by decide +kernel
theorem dX0_stay_8 : decode cX0_stay 8 = .ok (.getfield 12, 3) := by decide +kernel
theorem dX0_stay_11 : decode cX0_stay 11 = .ok (.iload_n 3, 1) := by decide +kernel
theorem dX0_stay_12 : decode cX0_stay 12 = .ok (.aload_n 0, 1) := by decide +kernel
theorem dX0_stay_13 : decode cX0_stay 13 = .ok (.getfield 18, 3) := by decide +kernel
theorem dX0_stay_16 : decode cX0_stay 16 = .ok (.getfield 60, 3) := by decide +kernel
theorem dX0_stay_19 : decode cX0_stay 19 = .ok (.iload_n 2, 1) := by decide +kernel
theorem dX0_stay_20 : decode cX0_stay 20 = .ok (.iaload, 1) := by decide +kernel
theorem dX0_stay_21 : decode cX0_stay 21 = .ok (.invokevirtual 93, 3) := by decide +kernel
theorem dX0_stay_24 : decode cX0_stay 24 = .ok (.istore 4, 2) := by decide +kernel
theorem dX0_stay_26 : decode cX0_stay 26 = .ok (.aload_n 0, 1) := by decide +kernel
theorem dX0_stay_27 : decode cX0_stay 27 = .ok (.getfield 18, 3) := by decide +kernel
theorem dX0_stay_30 : decode cX0_stay 30 = .ok (.getfield 96, 3) := by decide +kernel
theorem dX0_stay_33 : decode cX0_stay 33 = .ok (.aload_n 1, 1) := by decide +kernel
theorem dX0_stay_34 : decode cX0_stay 34 = .ok (.getfield 51, 3) := by decide +kernel
theorem dX0_stay_37 : decode cX0_stay 37 = .ok (.aload_n 0, 1) := by decide +kernel
theorem dX0_stay_38 : decode cX0_stay 38 = .ok (.getfield 18, 3) := by decide +kernel
theorem dX0_stay_41 : decode cX0_stay 41 = .ok (.getfield 100, 3) := by decide +kernel
theorem dX0_stay_44 : decode cX0_stay 44 = .ok (.iload_n 2, 1) := by decide +kernel
theorem dX0_stay_45 : decode cX0_stay 45 = .ok (.iaload, 1) := by decide +kernel
theorem dX0_stay_46 : decode cX0_stay 46 = .ok (.aload_n 0, 1) := by decide +kernel
theorem dX0_stay_47 : decode cX0_stay 47 = .ok (.getfield 12, 3) := by decide +kernel
theorem dX0_stay_50 : decode cX0_stay 50 = .ok (.iload_n 3, 1) := by decide +kernel
theorem dX0_stay_51 : decode cX0_stay 51 = .ok (.invokevirtual 103, 3) := by decide +kernel
theorem dX0_stay_54 : decode cX0_stay 54 = .ok (.iload 4, 2) := by decide +kernel
theorem dX0_stay_56 : decode cX0_stay 56 = .ok (.invokevirtual 106, 3) := by decide +kernel
theorem dX0_stay_59 : decode cX0_stay 59 = .ok (.istore 5, 2) := by decide +kernel
theorem dX0_stay_61 : decode cX0_stay 61 = .ok (.iconst 0, 1) := by decide +kernel
theorem dX0_stay_62 : decode cX0_stay 62 = .ok (.bipush 9, 2) := by decide +kernel
theorem dX0_stay_64 : decode cX0_stay 64 = .ok (.iload 5, 2) := by decide +kernel
theorem dX0_stay_66 : decode cX0_stay 66 = .ok (.invokestatic 112, 3) := by decide +kernel
theorem dX0_stay_69 : decode cX0_stay 69 = .ok (.invokestatic 117, 3) := by decide +kernel
theorem dX0_stay_72 : decode cX0_stay 72 = .ok (.ireturn, 1) := by decide +kernel
theorem dX0_bury_0 : decode cX0_bury 0 = .ok (.aload_n 0, 1) := by decide +kernel
theorem dX0_bury_1 : decode cX0_bury 1 = .ok (.getfield 42, 3) := by decide +kernel
theorem dX0_bury_4 : decode cX0_bury 4 = .ok (.iload_n 1, 1) := by decide +kernel
theorem dX0_bury_5 : decode cX0_bury 5 = .ok (.iconst 3, 1) := by decide +kernel
theorem dX0_bury_6 : decode cX0_bury 6 = .ok (.iastore, 1) := by decide +kernel
theorem dX0_bury_7 : decode cX0_bury 7 = .ok (.aload_n 0, 1) := by decide +kernel
theorem dX0_bury_8 : decode cX0_bury 8 = .ok (.getfield 54, 3) := by decide +kernel
theorem dX0_bury_11 : decode cX0_bury 11 = .ok (.iload_n 1, 1) := by decide +kernel
theorem dX0_bury_12 : decode cX0_bury 12 = .ok (.aload_n 0, 1) := by decide +kernel
theorem dX0_bury_13 : decode cX0_bury 13 = .ok (.getfield 51, 3) := by decide +kernel
theorem dX0_bury_16 : decode cX0_bury 16 = .ok (.iastore, 1) := by decide +kernel
theorem dX0_bury_17 : decode cX0_bury 17 = .ok (.iconst 0, 1) := by decide +kernel
theorem dX0_bury_18 : decode cX0_bury 18 = .ok (.istore_n 2, 1) := by decide +kernel
theorem dX0_bury_19 : decode cX0_bury 19 = .ok (.iload_n 2, 1) := by decide +kernel
theorem dX0_bury_20 : decode cX0_bury 20 = .ok (.aload_n 0, 1) := by decide +kernel
theorem dX0_bury_21 : decode cX0_bury 21 = .ok (.getfield 120, 3) := by decide +kernel
theorem dX0_bury_24 : decode cX0_bury 24 = .ok (.if_icmp .ge 30, 3) := by decide +kernel
theorem dX0_bury_27 : decode cX0_bury 27 = .ok (.aload_n 0, 1) := by decide +kernel
theorem dX0_bury_28 : decode cX0_bury 28 = .ok (.getfield 123, 3) := by decide +kernel
theorem dX0_bury_31 : decode cX0_bury 31 = .ok (.iload_n 2, 1) := by decide +kernel
theorem dX0_bury_32 : decode cX0_bury 32 = .ok (.iaload, 1) := by decide +kernel
theorem dX0_bury_33 : decode cX0_bury 33 = .ok (.iload_n 1, 1) := by decide +kernel
theorem dX0_bury_34 : decode cX0_bury 34 = .ok (.if_icmp .ne 14, 3) := by decide +kernel
theorem dX0_bury_37 : decode cX0_bury 37 = .ok (.aload_n 0, 1) := by decide +kernel
theorem dX0_bury_38 : decode cX0_bury 38 = .ok (.iload_n 2, 1) := by decide +kernel
theorem dX0_bury_39 : decode cX0_bury 39 = .ok (.aload_n 0, 1) := by decide +kernel
theorem dX0_bury_40 : decode cX0_bury 40 = .ok (.getfield 57, 3) := by decide +kernel
theorem dX0_bury_43 : decode cX0_bury 43 = .ok (.iload_n 1, 1) := by decide +kernel
theorem dX0_bury_44 : decode cX0_bury 44 = .ok (.iaload, 1) := by decide +kernel
theorem dX0_bury_45 : decode cX0_bury 45 = .ok (.invokevirtual 126, 3) := by decide +kernel
theorem dX0_bury_48 : decode cX0_bury 48 = .ok (.iinc 2 1, 3) := by decide +kernel
theorem dX0_bury_51 : decode cX0_bury 51 = .ok (.goto (-32), 3) := by decide +kernel
theorem dX0_bury_54 : decode cX0_bury 54 = .ok (.return_, 1) := by decide +kernel
theorem dX0_bringHome_0 : decode cX0_bringHome 0 = .ok (.iconst 0, 1) := by decide +kernel
theorem dX0_bringHome_1 : decode cX0_bringHome 1 = .ok (.istore_n 1, 1) := by decide +kernel
theorem dX0_bringHome_2 : decode cX0_bringHome 2 = .ok (.iconst 0, 1) := by decide +kernel
theorem dX0_bringHome_3 : decode cX0_bringHome 3 = .ok (.istore_n 2, 1) := by decide +kernel
theorem dX0_bringHome_4 : decode cX0_bringHome 4 = .ok (.iload_n 2, 1) := by decide +kernel
theorem dX0_bringHome_5 : decode cX0_bringHome 5 = .ok (.aload_n 0, 1) := by decide +kernel
theorem dX0_bringHome_6 : decode cX0_bringHome 6 = .ok (.getfield 120, 3) := by decide +kernel
theorem dX0_bringHome_9 : decode cX0_bringHome 9 = .ok (.if_icmp .ge 31, 3) := by decide +kernel
theorem dX0_bringHome_12 : decode cX0_bringHome 12 = .ok (.aload_n 0, 1) := by decide +kernel
theorem dX0_bringHome_13 : decode cX0_bringHome 13 = .ok (.iload_n 2, 1) := by decide +kernel
theorem dX0_bringHome_14 : decode cX0_bringHome 14 = .ok (.invokevirtual 130, 3) := by decide +kernel
theorem dX0_bringHome_17 : decode cX0_bringHome 17 = .ok (.aload_n 0, 1) := by decide +kernel
theorem dX0_bringHome_18 : decode cX0_bringHome 18 = .ok (.getfield 133, 3) := by decide +kernel
theorem dX0_bringHome_21 : decode cX0_bringHome 21 = .ok (.iload_n 2, 1) := by decide +kernel
theorem dX0_bringHome_22 : decode cX0_bringHome 22 = .ok (.iaload, 1) := by decide +kernel
theorem dX0_bringHome_23 : decode cX0_bringHome 23 = .ok (.if_icmp .ne 11, 3) := by decide +kernel
theorem dX0_bringHome_26 : decode cX0_bringHome 26 = .ok (.aload_n 0, 1) := by decide +kernel
theorem dX0_bringHome_27 : decode cX0_bringHome 27 = .ok (.iload_n 2, 1) := by decide +kernel
theorem dX0_bringHome_28 : decode cX0_bringHome 28 = .ok (.invokevirtual 136, 3) := by decide +kernel
theorem dX0_bringHome_31 : decode cX0_bringHome 31 = .ok (.iinc 1 1, 3) := by decide +kernel
theorem dX0_bringHome_34 : decode cX0_bringHome 34 = .ok (.iinc 2 1, 3) := by decide +kernel
theorem dX0_bringHome_37 : decode cX0_bringHome 37 = .ok (.goto (-33), 3) := by decide +kernel
theorem dX0_bringHome_40 : decode cX0_bringHome 40 = .ok (.iload_n 1, 1) := by decide +kernel
theorem dX0_bringHome_41 : decode cX0_bringHome 41 = .ok (.ireturn, 1) := by decide +kernel
theorem dX0_handOn_0 : decode cX0_handOn 0 = .ok (.iconst 0, 1) := by decide +kernel
theorem dX0_handOn_1 : decode cX0_handOn 1 = .ok (.istore_n 2, 1) := by decide +kernel
theorem dX0_handOn_2 : decode cX0_handOn 2 = .ok (.iload_n 2, 1) := by decide +kernel
theorem dX0_handOn_3 : decode cX0_handOn 3 = .ok (.aload_n 1, 1) := by decide +kernel
theorem dX0_handOn_4 : decode cX0_handOn 4 = .ok (.getfield 120, 3) := by decide +kernel
theorem dX0_handOn_7 : decode cX0_handOn 7 = .ok (.if_icmp .ge 51, 3) := by decide +kernel
theorem dX0_handOn_10 : decode cX0_handOn 10 = .ok (.aload_n 1, 1) := by decide +kernel
theorem dX0_handOn_11 : decode cX0_handOn 11 = .ok (.iload_n 2, 1) := by decide +kernel
theorem dX0_handOn_12 : decode cX0_handOn 12 = .ok (.invokevirtual 130, 3) := by decide +kernel
theorem dX0_handOn_15 : decode cX0_handOn 15 = .ok (.istore_n 3, 1) := by decide +kernel
theorem dX0_handOn_16 : decode cX0_handOn 16 = .ok (.iload_n 3, 1) := by decide +kernel
theorem dX0_handOn_17 : decode cX0_handOn 17 = .ok (.iconst (-1), 1) := by decide +kernel
theorem dX0_handOn_18 : decode cX0_handOn 18 = .ok (.if_icmp .eq 34, 3) := by decide +kernel
theorem dX0_handOn_21 : decode cX0_handOn 21 = .ok (.aload_n 0, 1) := by decide +kernel
theorem dX0_handOn_22 : decode cX0_handOn 22 = .ok (.aload_n 1, 1) := by decide +kernel
theorem dX0_handOn_23 : decode cX0_handOn 23 = .ok (.iload_n 2, 1) := by decide +kernel
theorem dX0_handOn_24 : decode cX0_handOn 24 = .ok (.iload_n 3, 1) := by decide +kernel
theorem dX0_handOn_25 : decode cX0_handOn 25 = .ok (.invokevirtual 140, 3) := by decide +kernel
theorem dX0_handOn_28 : decode cX0_handOn 28 = .ok (.istore 4, 2) := by decide +kernel
theorem dX0_handOn_30 : decode cX0_handOn 30 = .ok (.iload 4, 2) := by decide +kernel
theorem dX0_handOn_32 : decode cX0_handOn 32 = .ok (.iconst (-1), 1) := by decide +kernel
theorem dX0_handOn_33 : decode cX0_handOn 33 = .ok (.if_icmp .ne 12, 3) := by decide +kernel
theorem dX0_handOn_36 : decode cX0_handOn 36 = .ok (.aload_n 1, 1) := by decide +kernel
theorem dX0_handOn_37 : decode cX0_handOn 37 = .ok (.iload_n 2, 1) := by decide +kernel
theorem dX0_handOn_38 : decode cX0_handOn 38 = .ok (.iload_n 3, 1) := by decide +kernel
theorem dX0_handOn_39 : decode cX0_handOn 39 = .ok (.invokevirtual 126, 3) := by decide +kernel
theorem dX0_handOn_42 : decode cX0_handOn 42 = .ok (.goto 10, 3) := by decide +kernel
theorem dX0_handOn_45 : decode cX0_handOn 45 = .ok (.aload_n 1, 1) := by decide +kernel
theorem dX0_handOn_46 : decode cX0_handOn 46 = .ok (.iload_n 2, 1) := by decide +kernel
theorem dX0_handOn_47 : decode cX0_handOn 47 = .ok (.iload 4, 2) := by decide +kernel
theorem dX0_handOn_49 : decode cX0_handOn 49 = .ok (.invokevirtual 144, 3) := by decide +kernel
theorem dX0_handOn_52 : decode cX0_handOn 52 = .ok (.iinc 2 1, 3) := by decide +kernel
theorem dX0_handOn_55 : decode cX0_handOn 55 = .ok (.goto (-53), 3) := by decide +kernel
theorem dX0_handOn_58 : decode cX0_handOn 58 = .ok (.return_, 1) := by decide +kernel
theorem dX0_bestBier_0 : decode cX0_bestBier 0 = .ok (.aload_n 1, 1) := by decide +kernel
theorem dX0_bestBier_1 : decode cX0_bestBier 1 = .ok (.getfield 133, 3) := by decide +kernel
theorem dX0_bestBier_4 : decode cX0_bestBier 4 = .ok (.iload_n 2, 1) := by decide +kernel
theorem dX0_bestBier_5 : decode cX0_bestBier 5 = .ok (.iaload, 1) := by decide +kernel
theorem dX0_bestBier_6 : decode cX0_bestBier 6 = .ok (.istore 4, 2) := by decide +kernel
theorem dX0_bestBier_8 : decode cX0_bestBier 8 = .ok (.aload_n 1, 1) := by decide +kernel
theorem dX0_bestBier_9 : decode cX0_bestBier 9 = .ok (.getfield 123, 3) := by decide +kernel
theorem dX0_bestBier_12 : decode cX0_bestBier 12 = .ok (.iload_n 2, 1) := by decide +kernel
theorem dX0_bestBier_13 : decode cX0_bestBier 13 = .ok (.iaload, 1) := by decide +kernel
theorem dX0_bestBier_14 : decode cX0_bestBier 14 = .ok (.istore 5, 2) := by decide +kernel
theorem dX0_bestBier_16 : decode cX0_bestBier 16 = .ok (.iconst (-1), 1) := by decide +kernel
theorem dX0_bestBier_17 : decode cX0_bestBier 17 = .ok (.istore 6, 2) := by decide +kernel
theorem dX0_bestBier_19 : decode cX0_bestBier 19 = .ok (.aload_n 0, 1) := by decide +kernel
theorem dX0_bestBier_20 : decode cX0_bestBier 20 = .ok (.getfield 12, 3) := by decide +kernel
theorem dX0_bestBier_23 : decode cX0_bestBier 23 = .ok (.iload_n 3, 1) := by decide +kernel
theorem dX0_bestBier_24 : decode cX0_bestBier 24 = .ok (.iload 4, 2) := by decide +kernel
theorem dX0_bestBier_26 : decode cX0_bestBier 26 = .ok (.invokevirtual 93, 3) := by decide +kernel
theorem dX0_bestBier_29 : decode cX0_bestBier 29 = .ok (.istore 7, 2) := by decide +kernel
theorem dX0_bestBier_31 : decode cX0_bestBier 31 = .ok (.iconst 0, 1) := by decide +kernel
theorem dX0_bestBier_32 : decode cX0_bestBier 32 = .ok (.istore 8, 2) := by decide +kernel
theorem dX0_bestBier_34 : decode cX0_bestBier 34 = .ok (.iload 8, 2) := by decide +kernel
theorem dX0_bestBier_36 : decode cX0_bestBier 36 = .ok (.aload_n 0, 1) := by decide +kernel
theorem dX0_bestBier_37 : decode cX0_bestBier 37 = .ok (.getfield 18, 3) := by decide +kernel
theorem dX0_bestBier_40 : decode cX0_bestBier 40 = .ok (.getfield 36, 3) := by decide +kernel
theorem dX0_bestBier_43 : decode cX0_bestBier 43 = .ok (.if_icmp .ge 115, 3) := by decide +kernel
theorem dX0_bestBier_46 : decode cX0_bestBier 46 = .ok (.iload 8, 2) := by decide +kernel
theorem dX0_bestBier_48 : decode cX0_bestBier 48 = .ok (.iload 5, 2) := by decide +kernel
theorem dX0_bestBier_50 : decode cX0_bestBier 50 = .ok (.if_icmp .eq 23, 3) := by decide +kernel
theorem dX0_bestBier_53 : decode cX0_bestBier 53 = .ok (.aload_n 1, 1) := by decide +kernel
theorem dX0_bestBier_54 : decode cX0_bestBier 54 = .ok (.getfield 147, 3) := by decide +kernel
theorem dX0_bestBier_57 : decode cX0_bestBier 57 = .ok (.iload 8, 2) := by decide +kernel
theorem dX0_bestBier_59 : decode cX0_bestBier 59 = .ok (.iaload, 1) := by decide +kernel
theorem dX0_bestBier_60 : decode cX0_bestBier 60 = .ok (.aload_n 0, 1) := by decide +kernel
theorem dX0_bestBier_61 : decode cX0_bestBier 61 = .ok (.getfield 18, 3) := by decide +kernel
theorem dX0_bestBier_64 : decode cX0_bestBier 64 = .ok (.getfield 100, 3) := by decide +kernel
theorem dX0_bestBier_67 : decode cX0_bestBier 67 = .ok (.iload 8, 2) := by decide +kernel
theorem dX0_bestBier_69 : decode cX0_bestBier 69 = .ok (.iaload, 1) := by decide +kernel
theorem dX0_bestBier_70 : decode cX0_bestBier 70 = .ok (.if_icmp .ge 7, 3) := by decide +kernel
theorem dX0_bestBier_73 : decode cX0_bestBier 73 = .ok (.iconst 1, 1) := by decide +kernel
theorem dX0_bestBier_74 : decode cX0_bestBier 74 = .ok (.goto 4, 3) := by decide +kernel
theorem dX0_bestBier_77 : decode cX0_bestBier 77 = .ok (.iconst 0, 1) := by decide +kernel
theorem dX0_bestBier_78 : decode cX0_bestBier 78 = .ok (.istore 9, 2) := by decide +kernel
theorem dX0_bestBier_80 : decode cX0_bestBier 80 = .ok (.aload_n 1, 1) := by decide +kernel
theorem dX0_bestBier_81 : decode cX0_bestBier 81 = .ok (.iload 8, 2) := by decide +kernel
theorem dX0_bestBier_83 : decode cX0_bestBier 83 = .ok (.invokevirtual 75, 3) := by decide +kernel
theorem dX0_bestBier_86 : decode cX0_bestBier 86 = .ok (.iload_n 3, 1) := by decide +kernel
theorem dX0_bestBier_87 : decode cX0_bestBier 87 = .ok (.if_icmp .ne 65, 3) := by decide +kernel
theorem dX0_bestBier_90 : decode cX0_bestBier 90 = .ok (.iload 9, 2) := by decide +kernel
theorem dX0_bestBier_92 : decode cX0_bestBier 92 = .ok (.ifCond .eq 60, 3) := by decide +kernel
theorem dX0_bestBier_95 : decode cX0_bestBier 95 = .ok (.aload_n 0, 1) := by decide +kernel
theorem dX0_bestBier_96 : decode cX0_bestBier 96 = .ok (.getfield 12, 3) := by decide +kernel
theorem dX0_bestBier_99 : decode cX0_bestBier 99 = .ok (.iload_n 3, 1) := by decide +kernel
theorem dX0_bestBier_100 : decode cX0_bestBier 100 = .ok (.aload_n 0, 1) := by decide +kernel
theorem dX0_bestBier_101 : decode cX0_bestBier 101 = .ok (.getfield 18, 3) := by decide +kernel
theorem dX0_bestBier_104 : decode cX0_bestBier 104 = .ok (.getfield 60, 3) := by decide +kernel
theorem dX0_bestBier_107 : decode cX0_bestBier 107 = .ok (.iload 8, 2) := by decide +kernel
theorem dX0_bestBier_109 : decode cX0_bestBier 109 = .ok (.iaload, 1) := by decide +kernel
theorem dX0_bestBier_110 : decode cX0_bestBier 110 = .ok (.iload 4, 2) := by decide +kernel
theorem dX0_bestBier_112 : decode cX0_bestBier 112 = .ok (.invokevirtual 150, 3) := by decide +kernel
theorem dX0_bestBier_115 : decode cX0_bestBier 115 = .ok (.istore 10, 2) := by decide +kernel
theorem dX0_bestBier_117 : decode cX0_bestBier 117 = .ok (.iload 10, 2) := by decide +kernel
theorem dX0_bestBier_119 : decode cX0_bestBier 119 = .ok (.iload 7, 2) := by decide +kernel
theorem dX0_bestBier_121 : decode cX0_bestBier 121 = .ok (.if_icmp .lt 23, 3) := by decide +kernel
theorem dX0_bestBier_124 : decode cX0_bestBier 124 = .ok (.iload 10, 2) := by decide +kernel
theorem dX0_bestBier_126 : decode cX0_bestBier 126 = .ok (.iload 7, 2) := by decide +kernel
theorem dX0_bestBier_128 : decode cX0_bestBier 128 = .ok (.if_icmp .ne 24, 3) := by decide +kernel
theorem dX0_bestBier_131 : decode cX0_bestBier 131 = .ok (.iload 6, 2) := by decide +kernel
theorem dX0_bestBier_133 : decode cX0_bestBier 133 = .ok (.iconst (-1), 1) := by decide +kernel
theorem dX0_bestBier_134 : decode cX0_bestBier 134 = .ok (.if_icmp .eq 18, 3) := by decide +kernel
theorem dX0_bestBier_137 : decode cX0_bestBier 137 = .ok (.iload 8, 2) := by decide +kernel
theorem dX0_bestBier_139 : decode cX0_bestBier 139 = .ok (.iload 5, 2) := by decide +kernel
theorem dX0_bestBier_141 : decode cX0_bestBier 141 = .ok (.if_icmp .ne 11, 3) := by decide +kernel
theorem dX0_bestBier_144 : decode cX0_bestBier 144 = .ok (.iload 8, 2) := by decide +kernel
theorem dX0_bestBier_146 : decode cX0_bestBier 146 = .ok (.istore 6, 2) := by decide +kernel
theorem dX0_bestBier_148 : decode cX0_bestBier 148 = .ok (.iload 10, 2) := by decide +kernel
theorem dX0_bestBier_150 : decode cX0_bestBier 150 = .ok (.istore 7, 2) := by decide +kernel
theorem dX0_bestBier_152 : decode cX0_bestBier 152 = .ok (.iinc 8 1, 3) := by decide +kernel
theorem dX0_bestBier_155 : decode cX0_bestBier 155 = .ok (.goto (-121), 3) := by decide +kernel
theorem dX0_bestBier_158 : decode cX0_bestBier 158 = .ok (.iload 6, 2) := by decide +kernel
theorem dX0_bestBier_160 : decode cX0_bestBier 160 = .ok (.ireturn, 1) := by decide +kernel
theorem dX1_init_0 : decode cX1_init 0 = .ok (.aload_n 0, 1) := by decide +kernel
theorem dX1_init_1 : decode cX1_init 1 = .ok (.invokespecial 3, 3) := by decide +kernel
theorem dX1_init_4 : decode cX1_init 4 = .ok (.aload_n 0, 1) := by decide +kernel
theorem dX1_init_5 : decode cX1_init 5 = .ok (.sipush 270, 3) := by decide +kernel
theorem dX1_init_8 : decode cX1_init 8 = .ok (.newarray .int, 2) := by decide +kernel
theorem dX1_init_10 : decode cX1_init 10 = .ok (.putfield 9, 3) := by decide +kernel
theorem dX1_init_13 : decode cX1_init 13 = .ok (.aload_n 0, 1) := by decide +kernel
theorem dX1_init_14 : decode cX1_init 14 = .ok (.bipush 30, 2) := by decide +kernel
theorem dX1_init_16 : decode cX1_init 16 = .ok (.newarray .int, 2) := by decide +kernel
theorem dX1_init_18 : decode cX1_init 18 = .ok (.putfield 13, 3) := by decide +kernel
theorem dX1_init_21 : decode cX1_init 21 = .ok (.return_, 1) := by decide +kernel
theorem dX1_clear_0 : decode cX1_clear 0 = .ok (.aload_n 0, 1) := by decide +kernel
theorem dX1_clear_1 : decode cX1_clear 1 = .ok (.iconst 0, 1) := by decide +kernel
theorem dX1_clear_2 : decode cX1_clear 2 = .ok (.putfield 16, 3) := by decide +kernel
theorem dX1_clear_5 : decode cX1_clear 5 = .ok (.aload_n 0, 1) := by decide +kernel
theorem dX1_clear_6 : decode cX1_clear 6 = .ok (.iconst 0, 1) := by decide +kernel
theorem dX1_clear_7 : decode cX1_clear 7 = .ok (.putfield 20, 3) := by decide +kernel
theorem dX1_clear_10 : decode cX1_clear 10 = .ok (.return_, 1) := by decide +kernel
theorem dX1_isFull_0 : decode cX1_isFull 0 = .ok (.aload_n 0, 1) := by decide +kernel
theorem dX1_isFull_1 : decode cX1_isFull 1 = .ok (.getfield 20, 3) := by decide +kernel
theorem dX1_isFull_4 : decode cX1_isFull 4 = .ok (.bipush 30, 2) := by decide +kernel
theorem dX1_isFull_6 : decode cX1_isFull 6 = .ok (.if_icmp .lt 7, 3) := by decide +kernel
theorem dX1_isFull_9 : decode cX1_isFull 9 = .ok (.iconst 1, 1) := by decide +kernel
theorem dX1_isFull_10 : decode cX1_isFull 10 = .ok (.goto 4, 3) := by decide +kernel
theorem dX1_isFull_13 : decode cX1_isFull 13 = .ok (.iconst 0, 1) := by decide +kernel
theorem dX1_isFull_14 : decode cX1_isFull 14 = .ok (.ireturn, 1) := by decide +kernel
theorem dX1_add_0 : decode cX1_add 0 = .ok (.aload_n 0, 1) := by decide +kernel
theorem dX1_add_1 : decode cX1_add 1 = .ok (.getfield 16, 3) := by decide +kernel
theorem dX1_add_4 : decode cX1_add 4 = .ok (.ifCond .lt 35, 3) := by decide +kernel
theorem dX1_add_7 : decode cX1_add 7 = .ok (.aload_n 0, 1) := by decide +kernel
theorem dX1_add_8 : decode cX1_add 8 = .ok (.getfield 16, 3) := by decide +kernel
theorem dX1_add_11 : decode cX1_add 11 = .ok (.aload_n 0, 1) := by decide +kernel
theorem dX1_add_12 : decode cX1_add 12 = .ok (.getfield 9, 3) := by decide +kernel
theorem dX1_add_15 : decode cX1_add 15 = .ok (.arraylength, 1) := by decide +kernel
theorem dX1_add_16 : decode cX1_add 16 = .ok (.if_icmp .ge 23, 3) := by decide +kernel
theorem dX1_add_19 : decode cX1_add 19 = .ok (.aload_n 0, 1) := by decide +kernel
theorem dX1_add_20 : decode cX1_add 20 = .ok (.getfield 9, 3) := by decide +kernel
theorem dX1_add_23 : decode cX1_add 23 = .ok (.aload_n 0, 1) := by decide +kernel
theorem dX1_add_24 : decode cX1_add 24 = .ok (.getfield 16, 3) := by decide +kernel
theorem dX1_add_27 : decode cX1_add 27 = .ok (.iload_n 1, 1) := by decide +kernel
theorem dX1_add_28 : decode cX1_add 28 = .ok (.iastore, 1) := by decide +kernel
theorem dX1_add_29 : decode cX1_add 29 = .ok (.aload_n 0, 1) := by decide +kernel
theorem dX1_add_30 : decode cX1_add 30 = .ok (.dup, 1) := by decide +kernel
theorem dX1_add_31 : decode cX1_add 31 = .ok (.getfield 16, 3) := by decide +kernel
theorem dX1_add_34 : decode cX1_add 34 = .ok (.iconst 1, 1) := by decide +kernel
theorem dX1_add_35 : decode cX1_add 35 = .ok (.iadd, 1) := by decide +kernel
theorem dX1_add_36 : decode cX1_add 36 = .ok (.putfield 16, 3) := by decide +kernel
theorem dX1_add_39 : decode cX1_add 39 = .ok (.return_, 1) := by decide +kernel
theorem dX1_value_0 : decode cX1_value 0 = .ok (.iconst 0, 1) := by decide +kernel
theorem dX1_value_1 : decode cX1_value 1 = .ok (.istore 5, 2) := by decide +kernel
theorem dX1_value_3 : decode cX1_value 3 = .ok (.iconst 0, 1) := by decide +kernel
theorem dX1_value_4 : decode cX1_value 4 = .ok (.istore 6, 2) := by decide +kernel
theorem dX1_value_6 : decode cX1_value 6 = .ok (.iload 6, 2) := by decide +kernel
theorem dX1_value_8 : decode cX1_value 8 = .ok (.aload_n 0, 1) := by decide +kernel
theorem dX1_value_9 : decode cX1_value 9 = .ok (.getfield 16, 3) := by decide +kernel
theorem dX1_value_12 : decode cX1_value 12 = .ok (.if_icmp .ge 215, 3) := by decide +kernel
theorem dX1_value_15 : decode cX1_value 15 = .ok (.aload_n 0, 1) := by decide +kernel
theorem dX1_value_16 : decode cX1_value 16 = .ok (.getfield 9, 3) := by decide +kernel
theorem dX1_value_19 : decode cX1_value 19 = .ok (.iload 6, 2) := by decide +kernel
theorem dX1_value_21 : decode cX1_value 21 = .ok (.iaload, 1) := by decide +kernel
theorem dX1_value_22 : decode cX1_value 22 = .ok (.istore 7, 2) := by decide +kernel
theorem dX1_value_24 : decode cX1_value 24 = .ok (.iload 7, 2) := by decide +kernel
theorem dX1_value_26 : decode cX1_value 26 = .ok (.ineg, 1) := by decide +kernel
theorem dX1_value_27 : decode cX1_value 27 = .ok (.tableswitch 136 24 33 #[65, 136, 136, 136, 136, 136, 102, 53, 77, 89], 53) := by decide +kernel
theorem dX1_value_80 : decode cX1_value 80 = .ok (.aload_n 0, 1) := by decide +kernel
theorem dX1_value_81 : decode cX1_value 81 = .ok (.iload 5, 2) := by decide +kernel
theorem dX1_value_83 : decode cX1_value 83 = .ok (.iload_n 1, 1) := by decide +kernel
theorem dX1_value_84 : decode cX1_value 84 = .ok (.invokevirtual 23, 3) := by decide +kernel
theorem dX1_value_87 : decode cX1_value 87 = .ok (.istore 5, 2) := by decide +kernel
theorem dX1_value_89 : decode cX1_value 89 = .ok (.goto 132, 3) := by decide +kernel
theorem dX1_value_92 : decode cX1_value 92 = .ok (.aload_n 0, 1) := by decide +kernel
theorem dX1_value_93 : decode cX1_value 93 = .ok (.iload 5, 2) := by decide +kernel
theorem dX1_value_95 : decode cX1_value 95 = .ok (.iload_n 2, 1) := by decide +kernel
theorem dX1_value_96 : decode cX1_value 96 = .ok (.invokevirtual 23, 3) := by decide +kernel
theorem dX1_value_99 : decode cX1_value 99 = .ok (.istore 5, 2) := by decide +kernel
theorem dX1_value_101 : decode cX1_value 101 = .ok (.goto 120, 3) := by decide +kernel
theorem dX1_value_104 : decode cX1_value 104 = .ok (.aload_n 0, 1) := by decide +kernel
theorem dX1_value_105 : decode cX1_value 105 = .ok (.iload 5, 2) := by decide +kernel
theorem dX1_value_107 : decode cX1_value 107 = .ok (.iload_n 3, 1) := by decide +kernel
theorem dX1_value_108 : decode cX1_value 108 = .ok (.invokevirtual 23, 3) := by decide +kernel
theorem dX1_value_111 : decode cX1_value 111 = .ok (.istore 5, 2) := by decide +kernel
theorem dX1_value_113 : decode cX1_value 113 = .ok (.goto 108, 3) := by decide +kernel
theorem dX1_value_116 : decode cX1_value 116 = .ok (.aload_n 0, 1) := by decide +kernel
theorem dX1_value_117 : decode cX1_value 117 = .ok (.iload 5, 2) := by decide +kernel
theorem dX1_value_119 : decode cX1_value 119 = .ok (.iload 4, 2) := by decide +kernel
theorem dX1_value_121 : decode cX1_value 121 = .ok (.invokevirtual 23, 3) := by decide +kernel
theorem dX1_value_124 : decode cX1_value 124 = .ok (.istore 5, 2) := by decide +kernel
theorem dX1_value_126 : decode cX1_value 126 = .ok (.goto 95, 3) := by decide +kernel
theorem dX1_value_129 : decode cX1_value 129 = .ok (.iload 5, 2) := by decide +kernel
theorem dX1_value_131 : decode cX1_value 131 = .ok (.ifCond .le 90, 3) := by decide +kernel
theorem dX1_value_134 : decode cX1_value 134 = .ok (.aload_n 0, 1) := by decide +kernel
theorem dX1_value_135 : decode cX1_value 135 = .ok (.getfield 13, 3) := by decide +kernel
theorem dX1_value_138 : decode cX1_value 138 = .ok (.iload 5, 2) := by decide +kernel
theorem dX1_value_140 : decode cX1_value 140 = .ok (.iconst 1, 1) := by decide +kernel
theorem dX1_value_141 : decode cX1_value 141 = .ok (.isub, 1) := by decide +kernel
theorem dX1_value_142 : decode cX1_value 142 = .ok (.aload_n 0, 1) := by decide +kernel
theorem dX1_value_143 : decode cX1_value 143 = .ok (.getfield 13, 3) := by decide +kernel
theorem dX1_value_146 : decode cX1_value 146 = .ok (.iload 5, 2) := by decide +kernel
theorem dX1_value_148 : decode cX1_value 148 = .ok (.iconst 1, 1) := by decide +kernel
theorem dX1_value_149 : decode cX1_value 149 = .ok (.isub, 1) := by decide +kernel
theorem dX1_value_150 : decode cX1_value 150 = .ok (.iaload, 1) := by decide +kernel
theorem dX1_value_151 : decode cX1_value 151 = .ok (.ifCond .ne 7, 3) := by decide +kernel
theorem dX1_value_154 : decode cX1_value 154 = .ok (.iconst 1, 1) := by decide +kernel
theorem dX1_value_155 : decode cX1_value 155 = .ok (.goto 4, 3) := by decide +kernel
theorem dX1_value_158 : decode cX1_value 158 = .ok (.iconst 0, 1) := by decide +kernel
theorem dX1_value_159 : decode cX1_value 159 = .ok (.iastore, 1) := by decide +kernel
theorem dX1_value_160 : decode cX1_value 160 = .ok (.goto 61, 3) := by decide +kernel
theorem dX1_value_163 : decode cX1_value 163 = .ok (.iload 7, 2) := by decide +kernel
theorem dX1_value_165 : decode cX1_value 165 = .ok (.ifCond .lt 16, 3) := by decide +kernel
theorem dX1_value_168 : decode cX1_value 168 = .ok (.aload_n 0, 1) := by decide +kernel
theorem dX1_value_169 : decode cX1_value 169 = .ok (.iload 5, 2) := by decide +kernel
theorem dX1_value_171 : decode cX1_value 171 = .ok (.iload 7, 2) := by decide +kernel
theorem dX1_value_173 : decode cX1_value 173 = .ok (.invokevirtual 23, 3) := by decide +kernel
theorem dX1_value_176 : decode cX1_value 176 = .ok (.istore 5, 2) := by decide +kernel
theorem dX1_value_178 : decode cX1_value 178 = .ok (.goto 43, 3) := by decide +kernel
theorem dX1_value_181 : decode cX1_value 181 = .ok (.iload 5, 2) := by decide +kernel
theorem dX1_value_183 : decode cX1_value 183 = .ok (.iconst 1, 1) := by decide +kernel
theorem dX1_value_184 : decode cX1_value 184 = .ok (.if_icmp .le 37, 3) := by decide +kernel
theorem dX1_value_187 : decode cX1_value 187 = .ok (.iinc 5 (-1), 3) := by decide +kernel
theorem dX1_value_190 : decode cX1_value 190 = .ok (.aload_n 0, 1) := by decide +kernel
theorem dX1_value_191 : decode cX1_value 191 = .ok (.getfield 13, 3) := by decide +kernel
theorem dX1_value_194 : decode cX1_value 194 = .ok (.iload 5, 2) := by decide +kernel
theorem dX1_value_196 : decode cX1_value 196 = .ok (.iconst 1, 1) := by decide +kernel
theorem dX1_value_197 : decode cX1_value 197 = .ok (.isub, 1) := by decide +kernel
theorem dX1_value_198 : decode cX1_value 198 = .ok (.iload 7, 2) := by decide +kernel
theorem dX1_value_200 : decode cX1_value 200 = .ok (.ineg, 1) := by decide +kernel
theorem dX1_value_201 : decode cX1_value 201 = .ok (.aload_n 0, 1) := by decide +kernel
theorem dX1_value_202 : decode cX1_value 202 = .ok (.getfield 13, 3) := by decide +kernel
theorem dX1_value_205 : decode cX1_value 205 = .ok (.iload 5, 2) := by decide +kernel
theorem dX1_value_207 : decode cX1_value 207 = .ok (.iconst 1, 1) := by decide +kernel
theorem dX1_value_208 : decode cX1_value 208 = .ok (.isub, 1) := by decide +kernel
theorem dX1_value_209 : decode cX1_value 209 = .ok (.iaload, 1) := by decide +kernel
theorem dX1_value_210 : decode cX1_value 210 = .ok (.aload_n 0, 1) := by decide +kernel
theorem dX1_value_211 : decode cX1_value 211 = .ok (.getfield 13, 3) := by decide +kernel
theorem dX1_value_214 : decode cX1_value 214 = .ok (.iload 5, 2) := by decide +kernel
theorem dX1_value_216 : decode cX1_value 216 = .ok (.iaload, 1) := by decide +kernel
theorem dX1_value_217 : decode cX1_value 217 = .ok (.invokestatic 27, 3) := by decide +kernel
theorem dX1_value_220 : decode cX1_value 220 = .ok (.iastore, 1) := by decide +kernel
theorem dX1_value_221 : decode cX1_value 221 = .ok (.iinc 6 1, 3) := by decide +kernel
theorem dX1_value_224 : decode cX1_value 224 = .ok (.goto (-218), 3) := by decide +kernel
theorem dX1_value_227 : decode cX1_value 227 = .ok (.iload 5, 2) := by decide +kernel
theorem dX1_value_229 : decode cX1_value 229 = .ok (.ifCond .le 12, 3) := by decide +kernel
theorem dX1_value_232 : decode cX1_value 232 = .ok (.aload_n 0, 1) := by decide +kernel
theorem dX1_value_233 : decode cX1_value 233 = .ok (.getfield 13, 3) := by decide +kernel
theorem dX1_value_236 : decode cX1_value 236 = .ok (.iconst 0, 1) := by decide +kernel
theorem dX1_value_237 : decode cX1_value 237 = .ok (.iaload, 1) := by decide +kernel
theorem dX1_value_238 : decode cX1_value 238 = .ok (.goto 4, 3) := by decide +kernel
theorem dX1_value_241 : decode cX1_value 241 = .ok (.iconst 0, 1) := by decide +kernel
theorem dX1_value_242 : decode cX1_value 242 = .ok (.ireturn, 1) := by decide +kernel
theorem dX1_push_0 : decode cX1_push 0 = .ok (.iload_n 1, 1) := by decide +kernel
theorem dX1_push_1 : decode cX1_push 1 = .ok (.ifCond .lt 12, 3) := by decide +kernel
theorem dX1_push_4 : decode cX1_push 4 = .ok (.iload_n 1, 1) := by decide +kernel
theorem dX1_push_5 : decode cX1_push 5 = .ok (.aload_n 0, 1) := by decide +kernel
theorem dX1_push_6 : decode cX1_push 6 = .ok (.getfield 13, 3) := by decide +kernel
theorem dX1_push_9 : decode cX1_push 9 = .ok (.arraylength, 1) := by decide +kernel
theorem dX1_push_10 : decode cX1_push 10 = .ok (.if_icmp .lt 5, 3) := by decide +kernel
theorem dX1_push_13 : decode cX1_push 13 = .ok (.iload_n 1, 1) := by decide +kernel
theorem dX1_push_14 : decode cX1_push 14 = .ok (.ireturn, 1) := by decide +kernel
theorem dX1_push_15 : decode cX1_push 15 = .ok (.aload_n 0, 1) := by decide +kernel
theorem dX1_push_16 : decode cX1_push 16 = .ok (.getfield 13, 3) := by decide +kernel
theorem dX1_push_19 : decode cX1_push 19 = .ok (.iload_n 1, 1) := by decide +kernel
theorem dX1_push_20 : decode cX1_push 20 = .ok (.iload_n 2, 1) := by decide +kernel
theorem dX1_push_21 : decode cX1_push 21 = .ok (.iastore, 1) := by decide +kernel
theorem dX1_push_22 : decode cX1_push 22 = .ok (.iload_n 1, 1) := by decide +kernel
theorem dX1_push_23 : decode cX1_push 23 = .ok (.iconst 1, 1) := by decide +kernel
theorem dX1_push_24 : decode cX1_push 24 = .ok (.iadd, 1) := by decide +kernel
theorem dX1_push_25 : decode cX1_push 25 = .ok (.ireturn, 1) := by decide +kernel
theorem dX1_join_0 : decode cX1_join 0 = .ok (.iload_n 0, 1) := by decide +kernel
theorem dX1_join_1 : decode cX1_join 1 = .ok (.tableswitch 192 7 29 #[135, 146, 157, 168, 172, 176, 180, 192, 192, 192, 192, 192, 192, 192, 192, 192, 192, 192, 192, 192, 192, 107, 121], 107) := by decide +kernel
theorem dX1_join_108 : decode cX1_join 108 = .ok (.iload_n 1, 1) := by decide +kernel
theorem dX1_join_109 : decode cX1_join 109 = .ok (.ifCond .ne 7, 3) := by decide +kernel
theorem dX1_join_112 : decode cX1_join 112 = .ok (.iload_n 2, 1) := by decide +kernel
theorem dX1_join_113 : decode cX1_join 113 = .ok (.ifCond .eq 7, 3) := by decide +kernel
theorem dX1_join_116 : decode cX1_join 116 = .ok (.iconst 1, 1) := by decide +kernel
theorem dX1_join_117 : decode cX1_join 117 = .ok (.goto 4, 3) := by decide +kernel
theorem dX1_join_120 : decode cX1_join 120 = .ok (.iconst 0, 1) := by decide +kernel
theorem dX1_join_121 : decode cX1_join 121 = .ok (.ireturn, 1) := by decide +kernel
theorem dX1_join_122 : decode cX1_join 122 = .ok (.iload_n 1, 1) := by decide +kernel
theorem dX1_join_123 : decode cX1_join 123 = .ok (.ifCond .eq 11, 3) := by decide +kernel
theorem dX1_join_126 : decode cX1_join 126 = .ok (.iload_n 2, 1) := by decide +kernel
theorem dX1_join_127 : decode cX1_join 127 = .ok (.ifCond .eq 7, 3) := by decide +kernel
theorem dX1_join_130 : decode cX1_join 130 = .ok (.iconst 1, 1) := by decide +kernel
theorem dX1_join_131 : decode cX1_join 131 = .ok (.goto 4, 3) := by decide +kernel
theorem dX1_join_134 : decode cX1_join 134 = .ok (.iconst 0, 1) := by decide +kernel
theorem dX1_join_135 : decode cX1_join 135 = .ok (.ireturn, 1) := by decide +kernel
theorem dX1_join_136 : decode cX1_join 136 = .ok (.iload_n 1, 1) := by decide +kernel
theorem dX1_join_137 : decode cX1_join 137 = .ok (.iload_n 2, 1) := by decide +kernel
theorem dX1_join_138 : decode cX1_join 138 = .ok (.if_icmp .ge 7, 3) := by decide +kernel
theorem dX1_join_141 : decode cX1_join 141 = .ok (.iconst 1, 1) := by decide +kernel
theorem dX1_join_142 : decode cX1_join 142 = .ok (.goto 4, 3) := by decide +kernel
theorem dX1_join_145 : decode cX1_join 145 = .ok (.iconst 0, 1) := by decide +kernel
theorem dX1_join_146 : decode cX1_join 146 = .ok (.ireturn, 1) := by decide +kernel
theorem dX1_join_147 : decode cX1_join 147 = .ok (.iload_n 1, 1) := by decide +kernel
theorem dX1_join_148 : decode cX1_join 148 = .ok (.iload_n 2, 1) := by decide +kernel
theorem dX1_join_149 : decode cX1_join 149 = .ok (.if_icmp .le 7, 3) := by decide +kernel
theorem dX1_join_152 : decode cX1_join 152 = .ok (.iconst 1, 1) := by decide +kernel
theorem dX1_join_153 : decode cX1_join 153 = .ok (.goto 4, 3) := by decide +kernel
theorem dX1_join_156 : decode cX1_join 156 = .ok (.iconst 0, 1) := by decide +kernel
theorem dX1_join_157 : decode cX1_join 157 = .ok (.ireturn, 1) := by decide +kernel
theorem dX1_join_158 : decode cX1_join 158 = .ok (.iload_n 1, 1) := by decide +kernel
theorem dX1_join_159 : decode cX1_join 159 = .ok (.iload_n 2, 1) := by decide +kernel
theorem dX1_join_160 : decode cX1_join 160 = .ok (.if_icmp .ne 7, 3) := by decide +kernel
theorem dX1_join_163 : decode cX1_join 163 = .ok (.iconst 1, 1) := by decide +kernel
theorem dX1_join_164 : decode cX1_join 164 = .ok (.goto 4, 3) := by decide +kernel
theorem dX1_join_167 : decode cX1_join 167 = .ok (.iconst 0, 1) := by decide +kernel
theorem dX1_join_168 : decode cX1_join 168 = .ok (.ireturn, 1) := by decide +kernel
theorem dX1_join_169 : decode cX1_join 169 = .ok (.iload_n 1, 1) := by decide +kernel
theorem dX1_join_170 : decode cX1_join 170 = .ok (.iload_n 2, 1) := by decide +kernel
theorem dX1_join_171 : decode cX1_join 171 = .ok (.iadd, 1) := by decide +kernel
theorem dX1_join_172 : decode cX1_join 172 = .ok (.ireturn, 1) := by decide +kernel
theorem dX1_join_173 : decode cX1_join 173 = .ok (.iload_n 1, 1) := by decide +kernel
theorem dX1_join_174 : decode cX1_join 174 = .ok (.iload_n 2, 1) := by decide +kernel
theorem dX1_join_175 : decode cX1_join 175 = .ok (.isub, 1) := by decide +kernel
theorem dX1_join_176 : decode cX1_join 176 = .ok (.ireturn, 1) := by decide +kernel
theorem dX1_join_177 : decode cX1_join 177 = .ok (.iload_n 1, 1) := by decide +kernel
theorem dX1_join_178 : decode cX1_join 178 = .ok (.iload_n 2, 1) := by decide +kernel
theorem dX1_join_179 : decode cX1_join 179 = .ok (.imul, 1) := by decide +kernel
theorem dX1_join_180 : decode cX1_join 180 = .ok (.ireturn, 1) := by decide +kernel
theorem dX1_join_181 : decode cX1_join 181 = .ok (.iload_n 2, 1) := by decide +kernel
theorem dX1_join_182 : decode cX1_join 182 = .ok (.ifCond .ne 7, 3) := by decide +kernel
theorem dX1_join_185 : decode cX1_join 185 = .ok (.iconst 0, 1) := by decide +kernel
theorem dX1_join_186 : decode cX1_join 186 = .ok (.goto 6, 3) := by decide +kernel
theorem dX1_join_189 : decode cX1_join 189 = .ok (.iload_n 1, 1) := by decide +kernel
theorem dX1_join_190 : decode cX1_join 190 = .ok (.iload_n 2, 1) := by decide +kernel
theorem dX1_join_191 : decode cX1_join 191 = .ok (.idiv, 1) := by decide +kernel
theorem dX1_join_192 : decode cX1_join 192 = .ok (.ireturn, 1) := by decide +kernel
theorem dX1_join_193 : decode cX1_join 193 = .ok (.iload_n 2, 1) := by decide +kernel
theorem dX1_join_194 : decode cX1_join 194 = .ok (.ifCond .ne 7, 3) := by decide +kernel
theorem dX1_join_197 : decode cX1_join 197 = .ok (.iconst 0, 1) := by decide +kernel
theorem dX1_join_198 : decode cX1_join 198 = .ok (.goto 6, 3) := by decide +kernel
theorem dX1_join_201 : decode cX1_join 201 = .ok (.iload_n 1, 1) := by decide +kernel
theorem dX1_join_202 : decode cX1_join 202 = .ok (.iload_n 2, 1) := by decide +kernel
theorem dX1_join_203 : decode cX1_join 203 = .ok (.irem, 1) := by decide +kernel
theorem dX1_join_204 : decode cX1_join 204 = .ok (.ireturn, 1) := by decide +kernel
theorem dX2_init_0 : decode cX2_init 0 = .ok (.aload_n 0, 1) := by decide +kernel
theorem dX2_init_1 : decode cX2_init 1 = .ok (.invokespecial 3, 3) := by decide +kernel
theorem dX2_init_4 : decode cX2_init 4 = .ok (.aload_n 0, 1) := by decide +kernel
theorem dX2_init_5 : decode cX2_init 5 = .ok (.bipush 12, 2) := by decide +kernel
theorem dX2_init_7 : decode cX2_init 7 = .ok (.newarray .int, 2) := by decide +kernel
theorem dX2_init_9 : decode cX2_init 9 = .ok (.putfield 9, 3) := by decide +kernel
theorem dX2_init_12 : decode cX2_init 12 = .ok (.aload_n 0, 1) := by decide +kernel
theorem dX2_init_13 : decode cX2_init 13 = .ok (.bipush 12, 2) := by decide +kernel
theorem dX2_init_15 : decode cX2_init 15 = .ok (.newarray .int, 2) := by decide +kernel
theorem dX2_init_17 : decode cX2_init 17 = .ok (.putfield 15, 3) := by decide +kernel
theorem dX2_init_20 : decode cX2_init 20 = .ok (.aload_n 0, 1) := by decide +kernel
theorem dX2_init_21 : decode cX2_init 21 = .ok (.bipush 12, 2) := by decide +kernel
theorem dX2_init_23 : decode cX2_init 23 = .ok (.newarray .int, 2) := by decide +kernel
theorem dX2_init_25 : decode cX2_init 25 = .ok (.putfield 18, 3) := by decide +kernel
theorem dX2_init_28 : decode cX2_init 28 = .ok (.aload_n 0, 1) := by decide +kernel
theorem dX2_init_29 : decode cX2_init 29 = .ok (.bipush 6, 2) := by decide +kernel
theorem dX2_init_31 : decode cX2_init 31 = .ok (.newarray .int, 2) := by decide +kernel
theorem dX2_init_33 : decode cX2_init 33 = .ok (.putfield 21, 3) := by decide +kernel
theorem dX2_init_36 : decode cX2_init 36 = .ok (.aload_n 0, 1) := by decide +kernel
theorem dX2_init_37 : decode cX2_init 37 = .ok (.bipush 6, 2) := by decide +kernel
theorem dX2_init_39 : decode cX2_init 39 = .ok (.newarray .int, 2) := by decide +kernel
theorem dX2_init_41 : decode cX2_init 41 = .ok (.putfield 24, 3) := by decide +kernel
theorem dX2_init_44 : decode cX2_init 44 = .ok (.aload_n 0, 1) := by decide +kernel
theorem dX2_init_45 : decode cX2_init 45 = .ok (.bipush 6, 2) := by decide +kernel
theorem dX2_init_47 : decode cX2_init 47 = .ok (.newarray .int, 2) := by decide +kernel
theorem dX2_init_49 : decode cX2_init 49 = .ok (.putfield 27, 3) := by decide +kernel
theorem dX2_init_52 : decode cX2_init 52 = .ok (.aload_n 0, 1) := by decide +kernel
theorem dX2_init_53 : decode cX2_init 53 = .ok (.bipush 6, 2) := by decide +kernel
theorem dX2_init_55 : decode cX2_init 55 = .ok (.newarray .int, 2) := by decide +kernel
theorem dX2_init_57 : decode cX2_init 57 = .ok (.putfield 30, 3) := by decide +kernel
theorem dX2_init_60 : decode cX2_init 60 = .ok (.aload_n 0, 1) := by decide +kernel
theorem dX2_init_61 : decode cX2_init 61 = .ok (.bipush 8, 2) := by decide +kernel
theorem dX2_init_63 : decode cX2_init 63 = .ok (.newarray .int, 2) := by decide +kernel
theorem dX2_init_65 : decode cX2_init 65 = .ok (.putfield 33, 3) := by decide +kernel
theorem dX2_init_68 : decode cX2_init 68 = .ok (.aload_n 0, 1) := by decide +kernel
theorem dX2_init_69 : decode cX2_init 69 = .ok (.bipush 8, 2) := by decide +kernel
theorem dX2_init_71 : decode cX2_init 71 = .ok (.newarray .int, 2) := by decide +kernel
theorem dX2_init_73 : decode cX2_init 73 = .ok (.putfield 36, 3) := by decide +kernel
theorem dX2_init_76 : decode cX2_init 76 = .ok (.aload_n 0, 1) := by decide +kernel
theorem dX2_init_77 : decode cX2_init 77 = .ok (.bipush 8, 2) := by decide +kernel
theorem dX2_init_79 : decode cX2_init 79 = .ok (.newarray .int, 2) := by decide +kernel
theorem dX2_init_81 : decode cX2_init 81 = .ok (.putfield 39, 3) := by decide +kernel
theorem dX2_init_84 : decode cX2_init 84 = .ok (.aload_n 0, 1) := by decide +kernel
theorem dX2_init_85 : decode cX2_init 85 = .ok (.bipush 8, 2) := by decide +kernel
theorem dX2_init_87 : decode cX2_init 87 = .ok (.newarray .int, 2) := by decide +kernel
theorem dX2_init_89 : decode cX2_init 89 = .ok (.putfield 42, 3) := by decide +kernel
theorem dX2_init_92 : decode cX2_init 92 = .ok (.aload_n 0, 1) := by decide +kernel
theorem dX2_init_93 : decode cX2_init 93 = .ok (.iconst (-1), 1) := by decide +kernel
theorem dX2_init_94 : decode cX2_init 94 = .ok (.putfield 45, 3) := by decide +kernel
theorem dX2_init_97 : decode cX2_init 97 = .ok (.aload_n 0, 1) := by decide +kernel
theorem dX2_init_98 : decode cX2_init 98 = .ok (.new 49, 3) := by decide +kernel
theorem dX2_init_101 : decode cX2_init 101 = .ok (.dup, 1) := by decide +kernel
theorem dX2_init_102 : decode cX2_init 102 = .ok (.invokespecial 51, 3) := by decide +kernel
theorem dX2_init_105 : decode cX2_init 105 = .ok (.putfield 52, 3) := by decide +kernel
theorem dX2_init_108 : decode cX2_init 108 = .ok (.return_, 1) := by decide +kernel
theorem dX2_clear_0 : decode cX2_clear 0 = .ok (.aload_n 0, 1) := by decide +kernel
theorem dX2_clear_1 : decode cX2_clear 1 = .ok (.iconst 0, 1) := by decide +kernel
theorem dX2_clear_2 : decode cX2_clear 2 = .ok (.putfield 56, 3) := by decide +kernel
theorem dX2_clear_5 : decode cX2_clear 5 = .ok (.aload_n 0, 1) := by decide +kernel
theorem dX2_clear_6 : decode cX2_clear 6 = .ok (.iconst 0, 1) := by decide +kernel
theorem dX2_clear_7 : decode cX2_clear 7 = .ok (.putfield 59, 3) := by decide +kernel
theorem dX2_clear_10 : decode cX2_clear 10 = .ok (.aload_n 0, 1) := by decide +kernel
theorem dX2_clear_11 : decode cX2_clear 11 = .ok (.iconst 0, 1) := by decide +kernel
theorem dX2_clear_12 : decode cX2_clear 12 = .ok (.putfield 62, 3) := by decide +kernel
theorem dX2_clear_15 : decode cX2_clear 15 = .ok (.aload_n 0, 1) := by decide +kernel
theorem dX2_clear_16 : decode cX2_clear 16 = .ok (.iconst 0, 1) := by decide +kernel
theorem dX2_clear_17 : decode cX2_clear 17 = .ok (.putfield 65, 3) := by decide +kernel
theorem dX2_clear_20 : decode cX2_clear 20 = .ok (.aload_n 0, 1) := by decide +kernel
theorem dX2_clear_21 : decode cX2_clear 21 = .ok (.iconst 0, 1) := by decide +kernel
theorem dX2_clear_22 : decode cX2_clear 22 = .ok (.putfield 68, 3) := by decide +kernel
theorem dX2_clear_25 : decode cX2_clear 25 = .ok (.aload_n 0, 1) := by decide +kernel
theorem dX2_clear_26 : decode cX2_clear 26 = .ok (.iconst (-1), 1) := by decide +kernel
theorem dX2_clear_27 : decode cX2_clear 27 = .ok (.putfield 45, 3) := by decide +kernel
theorem dX2_clear_30 : decode cX2_clear 30 = .ok (.aload_n 0, 1) := by decide +kernel
theorem dX2_clear_31 : decode cX2_clear 31 = .ok (.getfield 52, 3) := by decide +kernel
theorem dX2_clear_34 : decode cX2_clear 34 = .ok (.invokevirtual 71, 3) := by decide +kernel
theorem dX2_clear_37 : decode cX2_clear 37 = .ok (.return_, 1) := by decide +kernel
theorem dX2_hasWay_0 : decode cX2_hasWay 0 = .ok (.iconst 0, 1) := by decide +kernel
theorem dX2_hasWay_1 : decode cX2_hasWay 1 = .ok (.istore_n 3, 1) := by decide +kernel
theorem dX2_hasWay_2 : decode cX2_hasWay 2 = .ok (.iload_n 3, 1) := by decide +kernel
theorem dX2_hasWay_3 : decode cX2_hasWay 3 = .ok (.aload_n 0, 1) := by decide +kernel
theorem dX2_hasWay_4 : decode cX2_hasWay 4 = .ok (.getfield 59, 3) := by decide +kernel
theorem dX2_hasWay_7 : decode cX2_hasWay 7 = .ok (.if_icmp .ge 51, 3) := by decide +kernel
theorem dX2_hasWay_10 : decode cX2_hasWay 10 = .ok (.aload_n 0, 1) := by decide +kernel
theorem dX2_hasWay_11 : decode cX2_hasWay 11 = .ok (.getfield 9, 3) := by decide +kernel
theorem dX2_hasWay_14 : decode cX2_hasWay 14 = .ok (.iload_n 3, 1) := by decide +kernel
theorem dX2_hasWay_15 : decode cX2_hasWay 15 = .ok (.iaload, 1) := by decide +kernel
theorem dX2_hasWay_16 : decode cX2_hasWay 16 = .ok (.iload_n 1, 1) := by decide +kernel
theorem dX2_hasWay_17 : decode cX2_hasWay 17 = .ok (.if_icmp .ne 13, 3) := by decide +kernel
theorem dX2_hasWay_20 : decode cX2_hasWay 20 = .ok (.aload_n 0, 1) := by decide +kernel
theorem dX2_hasWay_21 : decode cX2_hasWay 21 = .ok (.getfield 15, 3) := by decide +kernel
theorem dX2_hasWay_24 : decode cX2_hasWay 24 = .ok (.iload_n 3, 1) := by decide +kernel
theorem dX2_hasWay_25 : decode cX2_hasWay 25 = .ok (.iaload, 1) := by decide +kernel
theorem dX2_hasWay_26 : decode cX2_hasWay 26 = .ok (.iload_n 2, 1) := by decide +kernel
theorem dX2_hasWay_27 : decode cX2_hasWay 27 = .ok (.if_icmp .eq 23, 3) := by decide +kernel
theorem dX2_hasWay_30 : decode cX2_hasWay 30 = .ok (.aload_n 0, 1) := by decide +kernel
theorem dX2_hasWay_31 : decode cX2_hasWay 31 = .ok (.getfield 9, 3) := by decide +kernel
theorem dX2_hasWay_34 : decode cX2_hasWay 34 = .ok (.iload_n 3, 1) := by decide +kernel
theorem dX2_hasWay_35 : decode cX2_hasWay 35 = .ok (.iaload, 1) := by decide +kernel
theorem dX2_hasWay_36 : decode cX2_hasWay 36 = .ok (.iload_n 2, 1) := by decide +kernel
theorem dX2_hasWay_37 : decode cX2_hasWay 37 = .ok (.if_icmp .ne 15, 3) := by decide +kernel
theorem dX2_hasWay_40 : decode cX2_hasWay 40 = .ok (.aload_n 0, 1) := by decide +kernel
theorem dX2_hasWay_41 : decode cX2_hasWay 41 = .ok (.getfield 15, 3) := by decide +kernel
theorem dX2_hasWay_44 : decode cX2_hasWay 44 = .ok (.iload_n 3, 1) := by decide +kernel
theorem dX2_hasWay_45 : decode cX2_hasWay 45 = .ok (.iaload, 1) := by decide +kernel
theorem dX2_hasWay_46 : decode cX2_hasWay 46 = .ok (.iload_n 1, 1) := by decide +kernel
theorem dX2_hasWay_47 : decode cX2_hasWay 47 = .ok (.if_icmp .ne 5, 3) := by decide +kernel
theorem dX2_hasWay_50 : decode cX2_hasWay 50 = .ok (.iconst 1, 1) := by decide +kernel
theorem dX2_hasWay_51 : decode cX2_hasWay 51 = .ok (.ireturn, 1) := by decide +kernel
theorem dX2_hasWay_52 : decode cX2_hasWay 52 = .ok (.iinc 3 1, 3) := by decide +kernel
theorem dX2_hasWay_55 : decode cX2_hasWay 55 = .ok (.goto (-53), 3) := by decide +kernel
theorem dX2_hasWay_58 : decode cX2_hasWay 58 = .ok (.iconst 0, 1) := by decide +kernel
theorem dX2_hasWay_59 : decode cX2_hasWay 59 = .ok (.ireturn, 1) := by decide +kernel
theorem dX2_addWay_0 : decode cX2_addWay 0 = .ok (.aload_n 0, 1) := by decide +kernel
theorem dX2_addWay_1 : decode cX2_addWay 1 = .ok (.getfield 59, 3) := by decide +kernel
theorem dX2_addWay_4 : decode cX2_addWay 4 = .ok (.bipush 12, 2) := by decide +kernel
theorem dX2_addWay_6 : decode cX2_addWay 6 = .ok (.if_icmp .ge 43, 3) := by decide +kernel
theorem dX2_addWay_9 : decode cX2_addWay 9 = .ok (.aload_n 0, 1) := by decide +kernel
theorem dX2_addWay_10 : decode cX2_addWay 10 = .ok (.getfield 9, 3) := by decide +kernel
theorem dX2_addWay_13 : decode cX2_addWay 13 = .ok (.aload_n 0, 1) := by decide +kernel
theorem dX2_addWay_14 : decode cX2_addWay 14 = .ok (.getfield 59, 3) := by decide +kernel
theorem dX2_addWay_17 : decode cX2_addWay 17 = .ok (.iload_n 1, 1) := by decide +kernel
theorem dX2_addWay_18 : decode cX2_addWay 18 = .ok (.iastore, 1) := by decide +kernel
theorem dX2_addWay_19 : decode cX2_addWay 19 = .ok (.aload_n 0, 1) := by decide +kernel
theorem dX2_addWay_20 : decode cX2_addWay 20 = .ok (.getfield 15, 3) := by decide +kernel
theorem dX2_addWay_23 : decode cX2_addWay 23 = .ok (.aload_n 0, 1) := by decide +kernel
theorem dX2_addWay_24 : decode cX2_addWay 24 = .ok (.getfield 59, 3) := by decide +kernel
theorem dX2_addWay_27 : decode cX2_addWay 27 = .ok (.iload_n 2, 1) := by decide +kernel
theorem dX2_addWay_28 : decode cX2_addWay 28 = .ok (.iastore, 1) := by decide +kernel
theorem dX2_addWay_29 : decode cX2_addWay 29 = .ok (.aload_n 0, 1) := by decide +kernel
theorem dX2_addWay_30 : decode cX2_addWay 30 = .ok (.getfield 18, 3) := by decide +kernel
theorem dX2_addWay_33 : decode cX2_addWay 33 = .ok (.aload_n 0, 1) := by decide +kernel
theorem dX2_addWay_34 : decode cX2_addWay 34 = .ok (.getfield 59, 3) := by decide +kernel
theorem dX2_addWay_37 : decode cX2_addWay 37 = .ok (.iload_n 3, 1) := by decide +kernel
theorem dX2_addWay_38 : decode cX2_addWay 38 = .ok (.iastore, 1) := by decide +kernel
theorem dX2_addWay_39 : decode cX2_addWay 39 = .ok (.aload_n 0, 1) := by decide +kernel
theorem dX2_addWay_40 : decode cX2_addWay 40 = .ok (.dup, 1) := by decide +kernel
theorem dX2_addWay_41 : decode cX2_addWay 41 = .ok (.getfield 59, 3) := by decide +kernel
theorem dX2_addWay_44 : decode cX2_addWay 44 = .ok (.iconst 1, 1) := by decide +kernel
theorem dX2_addWay_45 : decode cX2_addWay 45 = .ok (.iadd, 1) := by decide +kernel
theorem dX2_addWay_46 : decode cX2_addWay 46 = .ok (.putfield 59, 3) := by decide +kernel
theorem dX2_addWay_49 : decode cX2_addWay 49 = .ok (.return_, 1) := by decide +kernel
theorem dX2_addBier_0 : decode cX2_addBier 0 = .ok (.aload_n 0, 1) := by decide +kernel
theorem dX2_addBier_1 : decode cX2_addBier 1 = .ok (.getfield 62, 3) := by decide +kernel
theorem dX2_addBier_4 : decode cX2_addBier 4 = .ok (.bipush 6, 2) := by decide +kernel
theorem dX2_addBier_6 : decode cX2_addBier 6 = .ok (.if_icmp .ge 54, 3) := by decide +kernel
theorem dX2_addBier_9 : decode cX2_addBier 9 = .ok (.aload_n 0, 1) := by decide +kernel
theorem dX2_addBier_10 : decode cX2_addBier 10 = .ok (.getfield 21, 3) := by decide +kernel
theorem dX2_addBier_13 : decode cX2_addBier 13 = .ok (.aload_n 0, 1) := by decide +kernel
theorem dX2_addBier_14 : decode cX2_addBier 14 = .ok (.getfield 62, 3) := by decide +kernel
theorem dX2_addBier_17 : decode cX2_addBier 17 = .ok (.iload_n 1, 1) := by decide +kernel
theorem dX2_addBier_18 : decode cX2_addBier 18 = .ok (.iastore, 1) := by decide +kernel
theorem dX2_addBier_19 : decode cX2_addBier 19 = .ok (.aload_n 0, 1) := by decide +kernel
theorem dX2_addBier_20 : decode cX2_addBier 20 = .ok (.getfield 24, 3) := by decide +kernel
theorem dX2_addBier_23 : decode cX2_addBier 23 = .ok (.aload_n 0, 1) := by decide +kernel
theorem dX2_addBier_24 : decode cX2_addBier 24 = .ok (.getfield 62, 3) := by decide +kernel
theorem dX2_addBier_27 : decode cX2_addBier 27 = .ok (.iload_n 2, 1) := by decide +kernel
theorem dX2_addBier_28 : decode cX2_addBier 28 = .ok (.iastore, 1) := by decide +kernel
theorem dX2_addBier_29 : decode cX2_addBier 29 = .ok (.aload_n 0, 1) := by decide +kernel
theorem dX2_addBier_30 : decode cX2_addBier 30 = .ok (.getfield 27, 3) := by decide +kernel
theorem dX2_addBier_33 : decode cX2_addBier 33 = .ok (.aload_n 0, 1) := by decide +kernel
theorem dX2_addBier_34 : decode cX2_addBier 34 = .ok (.getfield 62, 3) := by decide +kernel
theorem dX2_addBier_37 : decode cX2_addBier 37 = .ok (.iload_n 3, 1) := by decide +kernel
theorem dX2_addBier_38 : decode cX2_addBier 38 = .ok (.iastore, 1) := by decide +kernel
theorem dX2_addBier_39 : decode cX2_addBier 39 = .ok (.aload_n 0, 1) := by decide +kernel
theorem dX2_addBier_40 : decode cX2_addBier 40 = .ok (.getfield 30, 3) := by decide +kernel
theorem dX2_addBier_43 : decode cX2_addBier 43 = .ok (.aload_n 0, 1) := by decide +kernel
theorem dX2_addBier_44 : decode cX2_addBier 44 = .ok (.getfield 62, 3) := by decide +kernel
theorem dX2_addBier_47 : decode cX2_addBier 47 = .ok (.iload 4, 2) := by decide +kernel
theorem dX2_addBier_49 : decode cX2_addBier 49 = .ok (.iastore, 1) := by decide +kernel
theorem dX2_addBier_50 : decode cX2_addBier 50 = .ok (.aload_n 0, 1) := by decide +kernel
theorem dX2_addBier_51 : decode cX2_addBier 51 = .ok (.dup, 1) := by decide +kernel
theorem dX2_addBier_52 : decode cX2_addBier 52 = .ok (.getfield 62, 3) := by decide +kernel
theorem dX2_addBier_55 : decode cX2_addBier 55 = .ok (.iconst 1, 1) := by decide +kernel
theorem dX2_addBier_56 : decode cX2_addBier 56 = .ok (.iadd, 1) := by decide +kernel
theorem dX2_addBier_57 : decode cX2_addBier 57 = .ok (.putfield 62, 3) := by decide +kernel
theorem dX2_addBier_60 : decode cX2_addBier 60 = .ok (.return_, 1) := by decide +kernel
theorem dX2_addLetter_0 : decode cX2_addLetter 0 = .ok (.aload_n 0, 1) := by decide +kernel
theorem dX2_addLetter_1 : decode cX2_addLetter 1 = .ok (.getfield 65, 3) := by decide +kernel
theorem dX2_addLetter_4 : decode cX2_addLetter 4 = .ok (.bipush 8, 2) := by decide +kernel
theorem dX2_addLetter_6 : decode cX2_addLetter 6 = .ok (.if_icmp .ge 54, 3) := by decide +kernel
theorem dX2_addLetter_9 : decode cX2_addLetter 9 = .ok (.aload_n 0, 1) := by decide +kernel
theorem dX2_addLetter_10 : decode cX2_addLetter 10 = .ok (.getfield 33, 3) := by decide +kernel
theorem dX2_addLetter_13 : decode cX2_addLetter 13 = .ok (.aload_n 0, 1) := by decide +kernel
theorem dX2_addLetter_14 : decode cX2_addLetter 14 = .ok (.getfield 65, 3) := by decide +kernel
theorem dX2_addLetter_17 : decode cX2_addLetter 17 = .ok (.iload_n 1, 1) := by decide +kernel
theorem dX2_addLetter_18 : decode cX2_addLetter 18 = .ok (.iastore, 1) := by decide +kernel
theorem dX2_addLetter_19 : decode cX2_addLetter 19 = .ok (.aload_n 0, 1) := by decide +kernel
theorem dX2_addLetter_20 : decode cX2_addLetter 20 = .ok (.getfield 36, 3) := by decide +kernel
theorem dX2_addLetter_23 : decode cX2_addLetter 23 = .ok (.aload_n 0, 1) := by decide +kernel
theorem dX2_addLetter_24 : decode cX2_addLetter 24 = .ok (.getfield 65, 3) := by decide +kernel
theorem dX2_addLetter_27 : decode cX2_addLetter 27 = .ok (.iload_n 2, 1) := by decide +kernel
theorem dX2_addLetter_28 : decode cX2_addLetter 28 = .ok (.iastore, 1) := by decide +kernel
theorem dX2_addLetter_29 : decode cX2_addLetter 29 = .ok (.aload_n 0, 1) := by decide +kernel
theorem dX2_addLetter_30 : decode cX2_addLetter 30 = .ok (.getfield 39, 3) := by decide +kernel
theorem dX2_addLetter_33 : decode cX2_addLetter 33 = .ok (.aload_n 0, 1) := by decide +kernel
theorem dX2_addLetter_34 : decode cX2_addLetter 34 = .ok (.getfield 65, 3) := by decide +kernel
theorem dX2_addLetter_37 : decode cX2_addLetter 37 = .ok (.iload_n 3, 1) := by decide +kernel
theorem dX2_addLetter_38 : decode cX2_addLetter 38 = .ok (.iastore, 1) := by decide +kernel
theorem dX2_addLetter_39 : decode cX2_addLetter 39 = .ok (.aload_n 0, 1) := by decide +kernel
theorem dX2_addLetter_40 : decode cX2_addLetter 40 = .ok (.getfield 42, 3) := by decide +kernel
theorem dX2_addLetter_43 : decode cX2_addLetter 43 = .ok (.aload_n 0, 1) := by decide +kernel
theorem dX2_addLetter_44 : decode cX2_addLetter 44 = .ok (.getfield 65, 3) := by decide +kernel
theorem dX2_addLetter_47 : decode cX2_addLetter 47 = .ok (.iload 4, 2) := by decide +kernel
theorem dX2_addLetter_49 : decode cX2_addLetter 49 = .ok (.iastore, 1) := by decide +kernel
theorem dX2_addLetter_50 : decode cX2_addLetter 50 = .ok (.aload_n 0, 1) := by decide +kernel
theorem dX2_addLetter_51 : decode cX2_addLetter 51 = .ok (.dup, 1) := by decide +kernel
theorem dX2_addLetter_52 : decode cX2_addLetter 52 = .ok (.getfield 65, 3) := by decide +kernel
theorem dX2_addLetter_55 : decode cX2_addLetter 55 = .ok (.iconst 1, 1) := by decide +kernel
theorem dX2_addLetter_56 : decode cX2_addLetter 56 = .ok (.iadd, 1) := by decide +kernel
theorem dX2_addLetter_57 : decode cX2_addLetter 57 = .ok (.putfield 65, 3) := by decide +kernel
theorem dX2_addLetter_60 : decode cX2_addLetter 60 = .ok (.return_, 1) := by decide +kernel
theorem dX2_isWinter_0 : decode cX2_isWinter 0 = .ok (.iload_n 1, 1) := by decide +kernel
theorem dX2_isWinter_1 : decode cX2_isWinter 1 = .ok (.aload_n 0, 1) := by decide +kernel
theorem dX2_isWinter_2 : decode cX2_isWinter 2 = .ok (.getfield 68, 3) := by decide +kernel
theorem dX2_isWinter_5 : decode cX2_isWinter 5 = .ok (.if_icmp .lt 15, 3) := by decide +kernel
theorem dX2_isWinter_8 : decode cX2_isWinter 8 = .ok (.iload_n 1, 1) := by decide +kernel
theorem dX2_isWinter_9 : decode cX2_isWinter 9 = .ok (.aload_n 0, 1) := by decide +kernel
theorem dX2_isWinter_10 : decode cX2_isWinter 10 = .ok (.getfield 45, 3) := by decide +kernel
theorem dX2_isWinter_13 : decode cX2_isWinter 13 = .ok (.if_icmp .gt 7, 3) := by decide +kernel
theorem dX2_isWinter_16 : decode cX2_isWinter 16 = .ok (.iconst 1, 1) := by decide +kernel
theorem dX2_isWinter_17 : decode cX2_isWinter 17 = .ok (.goto 4, 3) := by decide +kernel
theorem dX2_isWinter_20 : decode cX2_isWinter 20 = .ok (.iconst 0, 1) := by decide +kernel
theorem dX2_isWinter_21 : decode cX2_isWinter 21 = .ok (.ireturn, 1) := by decide +kernel
theorem dX2_reachedFrom_0 : decode cX2_reachedFrom 0 = .ok (.iconst 1, 1) := by decide +kernel
theorem dX2_reachedFrom_1 : decode cX2_reachedFrom 1 = .ok (.iload_n 1, 1) := by decide +kernel
theorem dX2_reachedFrom_2 : decode cX2_reachedFrom 2 = .ok (.ishl, 1) := by decide +kernel
theorem dX2_reachedFrom_3 : decode cX2_reachedFrom 3 = .ok (.istore_n 3, 1) := by decide +kernel
theorem dX2_reachedFrom_4 : decode cX2_reachedFrom 4 = .ok (.iconst 0, 1) := by decide +kernel
theorem dX2_reachedFrom_5 : decode cX2_reachedFrom 5 = .ok (.istore 4, 2) := by decide +kernel
theorem dX2_reachedFrom_7 : decode cX2_reachedFrom 7 = .ok (.iconst 0, 1) := by decide +kernel
theorem dX2_reachedFrom_8 : decode cX2_reachedFrom 8 = .ok (.istore 5, 2) := by decide +kernel
theorem dX2_reachedFrom_10 : decode cX2_reachedFrom 10 = .ok (.iload 5, 2) := by decide +kernel
theorem dX2_reachedFrom_12 : decode cX2_reachedFrom 12 = .ok (.bipush 7, 2) := by decide +kernel
theorem dX2_reachedFrom_14 : decode cX2_reachedFrom 14 = .ok (.if_icmp .ge 78, 3) := by decide +kernel
theorem dX2_reachedFrom_17 : decode cX2_reachedFrom 17 = .ok (.iload 4, 2) := by decide +kernel
theorem dX2_reachedFrom_19 : decode cX2_reachedFrom 19 = .ok (.iload_n 3, 1) := by decide +kernel
theorem dX2_reachedFrom_20 : decode cX2_reachedFrom 20 = .ok (.if_icmp .eq 72, 3) := by decide +kernel
theorem dX2_reachedFrom_23 : decode cX2_reachedFrom 23 = .ok (.iload_n 3, 1) := by decide +kernel
theorem dX2_reachedFrom_24 : decode cX2_reachedFrom 24 = .ok (.istore 4, 2) := by decide +kernel
theorem dX2_reachedFrom_26 : decode cX2_reachedFrom 26 = .ok (.iconst 0, 1) := by decide +kernel
theorem dX2_reachedFrom_27 : decode cX2_reachedFrom 27 = .ok (.istore 6, 2) := by decide +kernel
theorem dX2_reachedFrom_29 : decode cX2_reachedFrom 29 = .ok (.iload 6, 2) := by decide +kernel
theorem dX2_reachedFrom_31 : decode cX2_reachedFrom 31 = .ok (.aload_n 0, 1) := by decide +kernel
theorem dX2_reachedFrom_32 : decode cX2_reachedFrom 32 = .ok (.getfield 59, 3) := by decide +kernel
theorem dX2_reachedFrom_35 : decode cX2_reachedFrom 35 = .ok (.if_icmp .ge 51, 3) := by decide +kernel
theorem dX2_reachedFrom_38 : decode cX2_reachedFrom 38 = .ok (.iconst 1, 1) := by decide +kernel
theorem dX2_reachedFrom_39 : decode cX2_reachedFrom 39 = .ok (.aload_n 0, 1) := by decide +kernel
theorem dX2_reachedFrom_40 : decode cX2_reachedFrom 40 = .ok (.getfield 9, 3) := by decide +kernel
theorem dX2_reachedFrom_43 : decode cX2_reachedFrom 43 = .ok (.iload 6, 2) := by decide +kernel
theorem dX2_reachedFrom_45 : decode cX2_reachedFrom 45 = .ok (.iaload, 1) := by decide +kernel
theorem dX2_reachedFrom_46 : decode cX2_reachedFrom 46 = .ok (.ishl, 1) := by decide +kernel
theorem dX2_reachedFrom_47 : decode cX2_reachedFrom 47 = .ok (.iconst 1, 1) := by decide +kernel
theorem dX2_reachedFrom_48 : decode cX2_reachedFrom 48 = .ok (.aload_n 0, 1) := by decide +kernel
theorem dX2_reachedFrom_49 : decode cX2_reachedFrom 49 = .ok (.getfield 15, 3) := by decide +kernel
theorem dX2_reachedFrom_52 : decode cX2_reachedFrom 52 = .ok (.iload 6, 2) := by decide +kernel
theorem dX2_reachedFrom_54 : decode cX2_reachedFrom 54 = .ok (.iaload, 1) := by decide +kernel
theorem dX2_reachedFrom_55 : decode cX2_reachedFrom 55 = .ok (.ishl, 1) := by decide +kernel
theorem dX2_reachedFrom_56 : decode cX2_reachedFrom 56 = .ok (.ior, 1) := by decide +kernel
theorem dX2_reachedFrom_57 : decode cX2_reachedFrom 57 = .ok (.istore 7, 2) := by decide +kernel
theorem dX2_reachedFrom_59 : decode cX2_reachedFrom 59 = .ok (.iload_n 2, 1) := by decide +kernel
theorem dX2_reachedFrom_60 : decode cX2_reachedFrom 60 = .ok (.iload 6, 2) := by decide +kernel
theorem dX2_reachedFrom_62 : decode cX2_reachedFrom 62 = .ok (.ishr, 1) := by decide +kernel
theorem dX2_reachedFrom_63 : decode cX2_reachedFrom 63 = .ok (.iconst 1, 1) := by decide +kernel
theorem dX2_reachedFrom_64 : decode cX2_reachedFrom 64 = .ok (.iand, 1) := by decide +kernel
theorem dX2_reachedFrom_65 : decode cX2_reachedFrom 65 = .ok (.ifCond .ne 15, 3) := by decide +kernel
theorem dX2_reachedFrom_68 : decode cX2_reachedFrom 68 = .ok (.iload_n 3, 1) := by decide +kernel
theorem dX2_reachedFrom_69 : decode cX2_reachedFrom 69 = .ok (.iload 7, 2) := by decide +kernel
theorem dX2_reachedFrom_71 : decode cX2_reachedFrom 71 = .ok (.iand, 1) := by decide +kernel
theorem dX2_reachedFrom_72 : decode cX2_reachedFrom 72 = .ok (.ifCond .eq 8, 3) := by decide +kernel
theorem dX2_reachedFrom_75 : decode cX2_reachedFrom 75 = .ok (.iload_n 3, 1) := by decide +kernel
theorem dX2_reachedFrom_76 : decode cX2_reachedFrom 76 = .ok (.iload 7, 2) := by decide +kernel
theorem dX2_reachedFrom_78 : decode cX2_reachedFrom 78 = .ok (.ior, 1) := by decide +kernel
theorem dX2_reachedFrom_79 : decode cX2_reachedFrom 79 = .ok (.istore_n 3, 1) := by decide +kernel
theorem dX2_reachedFrom_80 : decode cX2_reachedFrom 80 = .ok (.iinc 6 1, 3) := by decide +kernel
theorem dX2_reachedFrom_83 : decode cX2_reachedFrom 83 = .ok (.goto (-54), 3) := by decide +kernel
theorem dX2_reachedFrom_86 : decode cX2_reachedFrom 86 = .ok (.iinc 5 1, 3) := by decide +kernel
theorem dX2_reachedFrom_89 : decode cX2_reachedFrom 89 = .ok (.goto (-79), 3) := by decide +kernel
theorem dX2_reachedFrom_92 : decode cX2_reachedFrom 92 = .ok (.iload_n 3, 1) := by decide +kernel
theorem dX2_reachedFrom_93 : decode cX2_reachedFrom 93 = .ok (.ireturn, 1) := by decide +kernel
theorem dX3_init_0 : decode cX3_init 0 = .ok (.aload_n 0, 1) := by decide +kernel
theorem dX3_init_1 : decode cX3_init 1 = .ok (.invokespecial 3, 3) := by decide +kernel
theorem dX3_init_4 : decode cX3_init 4 = .ok (.aload_n 0, 1) := by decide +kernel
theorem dX3_init_5 : decode cX3_init 5 = .ok (.new 9, 3) := by decide +kernel
theorem dX3_init_8 : decode cX3_init 8 = .ok (.dup, 1) := by decide +kernel
theorem dX3_init_9 : decode cX3_init 9 = .ok (.invokespecial 11, 3) := by decide +kernel
theorem dX3_init_12 : decode cX3_init 12 = .ok (.putfield 12, 3) := by decide +kernel
theorem dX3_init_15 : decode cX3_init 15 = .ok (.aload_n 0, 1) := by decide +kernel
theorem dX3_init_16 : decode cX3_init 16 = .ok (.bipush 7, 2) := by decide +kernel
theorem dX3_init_18 : decode cX3_init 18 = .ok (.newarray .int, 2) := by decide +kernel
theorem dX3_init_20 : decode cX3_init 20 = .ok (.putfield 18, 3) := by decide +kernel
theorem dX3_init_23 : decode cX3_init 23 = .ok (.aload_n 0, 1) := by decide +kernel
theorem dX3_init_24 : decode cX3_init 24 = .ok (.sipush 300, 3) := by decide +kernel
theorem dX3_init_27 : decode cX3_init 27 = .ok (.newarray .int, 2) := by decide +kernel
theorem dX3_init_29 : decode cX3_init 29 = .ok (.putfield 22, 3) := by decide +kernel
theorem dX3_init_32 : decode cX3_init 32 = .ok (.aload_n 0, 1) := by decide +kernel
theorem dX3_init_33 : decode cX3_init 33 = .ok (.bipush 7, 2) := by decide +kernel
theorem dX3_init_35 : decode cX3_init 35 = .ok (.newarray .int, 2) := by decide +kernel
theorem dX3_init_37 : decode cX3_init 37 = .ok (.putfield 25, 3) := by decide +kernel
theorem dX3_init_40 : decode cX3_init 40 = .ok (.aload_n 0, 1) := by decide +kernel
theorem dX3_init_41 : decode cX3_init 41 = .ok (.bipush 6, 2) := by decide +kernel
theorem dX3_init_43 : decode cX3_init 43 = .ok (.bipush 7, 2) := by decide +kernel
theorem dX3_init_45 : decode cX3_init 45 = .ok (.multianewarray 28 2, 4) := by decide +kernel
theorem dX3_init_49 : decode cX3_init 49 = .ok (.putfield 30, 3) := by decide +kernel
theorem dX3_init_52 : decode cX3_init 52 = .ok (.aload_n 0, 1) := by decide +kernel
theorem dX3_init_53 : decode cX3_init 53 = .ok (.iconst 2, 1) := by decide +kernel
theorem dX3_init_54 : decode cX3_init 54 = .ok (.bipush 10, 2) := by decide +kernel
theorem dX3_init_56 : decode cX3_init 56 = .ok (.multianewarray 28 2, 4) := by decide +kernel
theorem dX3_init_60 : decode cX3_init 60 = .ok (.putfield 33, 3) := by decide +kernel
theorem dX3_init_63 : decode cX3_init 63 = .ok (.aload_n 0, 1) := by decide +kernel
theorem dX3_init_64 : decode cX3_init 64 = .ok (.aload_n 1, 1) := by decide +kernel
theorem dX3_init_65 : decode cX3_init 65 = .ok (.putfield 36, 3) := by decide +kernel
theorem dX3_init_68 : decode cX3_init 68 = .ok (.return_, 1) := by decide +kernel
theorem dX3_runOut_0 : decode cX3_runOut 0 = .ok (.aload_n 0, 1) := by decide +kernel
theorem dX3_runOut_1 : decode cX3_runOut 1 = .ok (.getfield 12, 3) := by decide +kernel
theorem dX3_runOut_4 : decode cX3_runOut 4 = .ok (.aload_n 1, 1) := by decide +kernel
theorem dX3_runOut_5 : decode cX3_runOut 5 = .ok (.invokevirtual 40, 3) := by decide +kernel
theorem dX3_runOut_8 : decode cX3_runOut 8 = .ok (.iconst 0, 1) := by decide +kernel
theorem dX3_runOut_9 : decode cX3_runOut 9 = .ok (.istore_n 2, 1) := by decide +kernel
theorem dX3_runOut_10 : decode cX3_runOut 10 = .ok (.iload_n 2, 1) := by decide +kernel
theorem dX3_runOut_11 : decode cX3_runOut 11 = .ok (.sipush 300, 3) := by decide +kernel
theorem dX3_runOut_14 : decode cX3_runOut 14 = .ok (.if_icmp .ge 51, 3) := by decide +kernel
theorem dX3_runOut_17 : decode cX3_runOut 17 = .ok (.aload_n 0, 1) := by decide +kernel
theorem dX3_runOut_18 : decode cX3_runOut 18 = .ok (.getfield 12, 3) := by decide +kernel
theorem dX3_runOut_21 : decode cX3_runOut 21 = .ok (.getfield 44, 3) := by decide +kernel
theorem dX3_runOut_24 : decode cX3_runOut 24 = .ok (.sipush 300, 3) := by decide +kernel
theorem dX3_runOut_27 : decode cX3_runOut 27 = .ok (.if_icmp .ge 38, 3) := by decide +kernel
theorem dX3_runOut_30 : decode cX3_runOut 30 = .ok (.aload_n 0, 1) := by decide +kernel
theorem dX3_runOut_31 : decode cX3_runOut 31 = .ok (.getfield 36, 3) := by decide +kernel
theorem dX3_runOut_34 : decode cX3_runOut 34 = .ok (.aload_n 0, 1) := by decide +kernel
theorem dX3_runOut_35 : decode cX3_runOut 35 = .ok (.getfield 12, 3) := by decide +kernel
theorem dX3_runOut_38 : decode cX3_runOut 38 = .ok (.invokevirtual 48, 3) := by decide +kernel
theorem dX3_runOut_41 : decode cX3_runOut 41 = .ok (.pop, 1) := by decide +kernel
theorem dX3_runOut_42 : decode cX3_runOut 42 = .ok (.aload_n 0, 1) := by decide +kernel
theorem dX3_runOut_43 : decode cX3_runOut 43 = .ok (.getfield 36, 3) := by decide +kernel
theorem dX3_runOut_46 : decode cX3_runOut 46 = .ok (.aload_n 0, 1) := by decide +kernel
theorem dX3_runOut_47 : decode cX3_runOut 47 = .ok (.getfield 12, 3) := by decide +kernel
theorem dX3_runOut_50 : decode cX3_runOut 50 = .ok (.invokevirtual 54, 3) := by decide +kernel
theorem dX3_runOut_53 : decode cX3_runOut 53 = .ok (.ifCond .eq 6, 3) := by decide +kernel
theorem dX3_runOut_56 : decode cX3_runOut 56 = .ok (.goto 9, 3) := by decide +kernel
theorem dX3_runOut_59 : decode cX3_runOut 59 = .ok (.iinc 2 1, 3) := by decide +kernel
theorem dX3_runOut_62 : decode cX3_runOut 62 = .ok (.goto (-52), 3) := by decide +kernel
theorem dX3_runOut_65 : decode cX3_runOut 65 = .ok (.aload_n 0, 1) := by decide +kernel
theorem dX3_runOut_66 : decode cX3_runOut 66 = .ok (.getfield 12, 3) := by decide +kernel
theorem dX3_runOut_69 : decode cX3_runOut 69 = .ok (.areturn, 1) := by decide +kernel
theorem dX3_follow_0 : decode cX3_follow 0 = .ok (.aload_n 0, 1) := by decide +kernel
theorem dX3_follow_1 : decode cX3_follow 1 = .ok (.getfield 12, 3) := by decide +kernel
theorem dX3_follow_4 : decode cX3_follow 4 = .ok (.aload_n 1, 1) := by decide +kernel
theorem dX3_follow_5 : decode cX3_follow 5 = .ok (.invokevirtual 40, 3) := by decide +kernel
theorem dX3_follow_8 : decode cX3_follow 8 = .ok (.aload_n 0, 1) := by decide +kernel
theorem dX3_follow_9 : decode cX3_follow 9 = .ok (.getfield 12, 3) := by decide +kernel
theorem dX3_follow_12 : decode cX3_follow 12 = .ok (.iload_n 2, 1) := by decide +kernel
theorem dX3_follow_13 : decode cX3_follow 13 = .ok (.iload_n 3, 1) := by decide +kernel
theorem dX3_follow_14 : decode cX3_follow 14 = .ok (.invokevirtual 58, 3) := by decide +kernel
theorem dX3_follow_17 : decode cX3_follow 17 = .ok (.aload_n 0, 1) := by decide +kernel
theorem dX3_follow_18 : decode cX3_follow 18 = .ok (.iconst 0, 1) := by decide +kernel
theorem dX3_follow_19 : decode cX3_follow 19 = .ok (.putfield 62, 3) := by decide +kernel
theorem dX3_follow_22 : decode cX3_follow 22 = .ok (.aload_n 0, 1) := by decide +kernel
theorem dX3_follow_23 : decode cX3_follow 23 = .ok (.iconst 0, 1) := by decide +kernel
theorem dX3_follow_24 : decode cX3_follow 24 = .ok (.putfield 65, 3) := by decide +kernel
theorem dX3_follow_27 : decode cX3_follow 27 = .ok (.iconst 0, 1) := by decide +kernel
theorem dX3_follow_28 : decode cX3_follow 28 = .ok (.istore 4, 2) := by decide +kernel
theorem dX3_follow_30 : decode cX3_follow 30 = .ok (.iload 4, 2) := by decide +kernel
theorem dX3_follow_32 : decode cX3_follow 32 = .ok (.sipush 300, 3) := by decide +kernel
theorem dX3_follow_35 : decode cX3_follow 35 = .ok (.if_icmp .ge 93, 3) := by decide +kernel
theorem dX3_follow_38 : decode cX3_follow 38 = .ok (.aload_n 0, 1) := by decide +kernel
theorem dX3_follow_39 : decode cX3_follow 39 = .ok (.getfield 12, 3) := by decide +kernel
theorem dX3_follow_42 : decode cX3_follow 42 = .ok (.getfield 44, 3) := by decide +kernel
theorem dX3_follow_45 : decode cX3_follow 45 = .ok (.sipush 300, 3) := by decide +kernel
theorem dX3_follow_48 : decode cX3_follow 48 = .ok (.if_icmp .ge 80, 3) := by decide +kernel
theorem dX3_follow_51 : decode cX3_follow 51 = .ok (.aload_n 0, 1) := by decide +kernel
theorem dX3_follow_52 : decode cX3_follow 52 = .ok (.getfield 36, 3) := by decide +kernel
theorem dX3_follow_55 : decode cX3_follow 55 = .ok (.aload_n 0, 1) := by decide +kernel
theorem dX3_follow_56 : decode cX3_follow 56 = .ok (.getfield 12, 3) := by decide +kernel
theorem dX3_follow_59 : decode cX3_follow 59 = .ok (.invokevirtual 48, 3) := by decide +kernel
theorem dX3_follow_62 : decode cX3_follow 62 = .ok (.pop, 1) := by decide +kernel
theorem dX3_follow_63 : decode cX3_follow 63 = .ok (.aload_n 0, 1) := by decide +kernel
theorem dX3_follow_64 : decode cX3_follow 64 = .ok (.getfield 12, 3) := by decide +kernel
theorem dX3_follow_67 : decode cX3_follow 67 = .ok (.getfield 68, 3) := by decide +kernel
theorem dX3_follow_70 : decode cX3_follow 70 = .ok (.iconst 0, 1) := by decide +kernel
theorem dX3_follow_71 : decode cX3_follow 71 = .ok (.iaload, 1) := by decide +kernel
theorem dX3_follow_72 : decode cX3_follow 72 = .ok (.aload_n 0, 1) := by decide +kernel
theorem dX3_follow_73 : decode cX3_follow 73 = .ok (.getfield 62, 3) := by decide +kernel
theorem dX3_follow_76 : decode cX3_follow 76 = .ok (.if_icmp .le 16, 3) := by decide +kernel
theorem dX3_follow_79 : decode cX3_follow 79 = .ok (.aload_n 0, 1) := by decide +kernel
theorem dX3_follow_80 : decode cX3_follow 80 = .ok (.aload_n 0, 1) := by decide +kernel
theorem dX3_follow_81 : decode cX3_follow 81 = .ok (.getfield 12, 3) := by decide +kernel
theorem dX3_follow_84 : decode cX3_follow 84 = .ok (.getfield 71, 3) := by decide +kernel
theorem dX3_follow_87 : decode cX3_follow 87 = .ok (.iconst 0, 1) := by decide +kernel
theorem dX3_follow_88 : decode cX3_follow 88 = .ok (.iaload, 1) := by decide +kernel
theorem dX3_follow_89 : decode cX3_follow 89 = .ok (.invokevirtual 74, 3) := by decide +kernel
theorem dX3_follow_92 : decode cX3_follow 92 = .ok (.aload_n 0, 1) := by decide +kernel
theorem dX3_follow_93 : decode cX3_follow 93 = .ok (.getfield 12, 3) := by decide +kernel
theorem dX3_follow_96 : decode cX3_follow 96 = .ok (.getfield 78, 3) := by decide +kernel
theorem dX3_follow_99 : decode cX3_follow 99 = .ok (.iconst 0, 1) := by decide +kernel
theorem dX3_follow_100 : decode cX3_follow 100 = .ok (.iaload, 1) := by decide +kernel
theorem dX3_follow_101 : decode cX3_follow 101 = .ok (.iconst (-1), 1) := by decide +kernel
theorem dX3_follow_102 : decode cX3_follow 102 = .ok (.if_icmp .ne 26, 3) := by decide +kernel
theorem dX3_follow_105 : decode cX3_follow 105 = .ok (.aload_n 0, 1) := by decide +kernel
theorem dX3_follow_106 : decode cX3_follow 106 = .ok (.getfield 36, 3) := by decide +kernel
theorem dX3_follow_109 : decode cX3_follow 109 = .ok (.aload_n 0, 1) := by decide +kernel
theorem dX3_follow_110 : decode cX3_follow 110 = .ok (.getfield 12, 3) := by decide +kernel
theorem dX3_follow_113 : decode cX3_follow 113 = .ok (.invokevirtual 54, 3) := by decide +kernel
theorem dX3_follow_116 : decode cX3_follow 116 = .ok (.ifCond .eq 6, 3) := by decide +kernel
theorem dX3_follow_119 : decode cX3_follow 119 = .ok (.goto 9, 3) := by decide +kernel
theorem dX3_follow_122 : decode cX3_follow 122 = .ok (.iinc 4 1, 3) := by decide +kernel
theorem dX3_follow_125 : decode cX3_follow 125 = .ok (.goto (-95), 3) := by decide +kernel
theorem dX3_follow_128 : decode cX3_follow 128 = .ok (.aload_n 0, 1) := by decide +kernel
theorem dX3_follow_129 : decode cX3_follow 129 = .ok (.getfield 12, 3) := by decide +kernel
theorem dX3_follow_132 : decode cX3_follow 132 = .ok (.getfield 78, 3) := by decide +kernel
theorem dX3_follow_135 : decode cX3_follow 135 = .ok (.iconst 0, 1) := by decide +kernel
theorem dX3_follow_136 : decode cX3_follow 136 = .ok (.iaload, 1) := by decide +kernel
theorem dX3_follow_137 : decode cX3_follow 137 = .ok (.ireturn, 1) := by decide +kernel
theorem dX3_countHandedInto_0 : decode cX3_countHandedInto 0 = .ok (.iconst 0, 1) := by decide +kernel
theorem dX3_countHandedInto_1 : decode cX3_countHandedInto 1 = .ok (.istore_n 3, 1) := by decide +kernel
theorem dX3_countHandedInto_2 : decode cX3_countHandedInto 2 = .ok (.iconst 0, 1) := by decide +kernel
theorem dX3_countHandedInto_3 : decode cX3_countHandedInto 3 = .ok (.istore 4, 2) := by decide +kernel
theorem dX3_countHandedInto_5 : decode cX3_countHandedInto 5 = .ok (.iload 4, 2) := by decide +kernel
theorem dX3_countHandedInto_7 : decode cX3_countHandedInto 7 = .ok (.bipush 7, 2) := by decide +kernel
theorem dX3_countHandedInto_9 : decode cX3_countHandedInto 9 = .ok (.if_icmp .ge 37, 3) := by decide +kernel
theorem dX3_countHandedInto_12 : decode cX3_countHandedInto 12 = .ok (.iload_n 2, 1) := by decide +kernel
theorem dX3_countHandedInto_13 : decode cX3_countHandedInto 13 = .ok (.iload 4, 2) := by decide +kernel
theorem dX3_countHandedInto_15 : decode cX3_countHandedInto 15 = .ok (.ishr, 1) := by decide +kernel
theorem dX3_countHandedInto_16 : decode cX3_countHandedInto 16 = .ok (.iconst 1, 1) := by decide +kernel
theorem dX3_countHandedInto_17 : decode cX3_countHandedInto 17 = .ok (.iand, 1) := by decide +kernel
theorem dX3_countHandedInto_18 : decode cX3_countHandedInto 18 = .ok (.iconst 1, 1) := by decide +kernel
theorem dX3_countHandedInto_19 : decode cX3_countHandedInto 19 = .ok (.if_icmp .ne 21, 3) := by decide +kernel
theorem dX3_countHandedInto_22 : decode cX3_countHandedInto 22 = .ok (.aload_n 0, 1) := by decide +kernel
theorem dX3_countHandedInto_23 : decode cX3_countHandedInto 23 = .ok (.getfield 25, 3) := by decide +kernel
theorem dX3_countHandedInto_26 : decode cX3_countHandedInto 26 = .ok (.iload 4, 2) := by decide +kernel
theorem dX3_countHandedInto_28 : decode cX3_countHandedInto 28 = .ok (.iaload, 1) := by decide +kernel
theorem dX3_countHandedInto_29 : decode cX3_countHandedInto 29 = .ok (.iload_n 1, 1) := by decide +kernel
theorem dX3_countHandedInto_30 : decode cX3_countHandedInto 30 = .ok (.ishr, 1) := by decide +kernel
theorem dX3_countHandedInto_31 : decode cX3_countHandedInto 31 = .ok (.iconst 1, 1) := by decide +kernel
theorem dX3_countHandedInto_32 : decode cX3_countHandedInto 32 = .ok (.iand, 1) := by decide +kernel
theorem dX3_countHandedInto_33 : decode cX3_countHandedInto 33 = .ok (.iconst 1, 1) := by decide +kernel
theorem dX3_countHandedInto_34 : decode cX3_countHandedInto 34 = .ok (.if_icmp .ne 6, 3) := by decide +kernel
theorem dX3_countHandedInto_37 : decode cX3_countHandedInto 37 = .ok (.iinc 3 1, 3) := by decide +kernel
theorem dX3_countHandedInto_40 : decode cX3_countHandedInto 40 = .ok (.iinc 4 1, 3) := by decide +kernel
theorem dX3_countHandedInto_43 : decode cX3_countHandedInto 43 = .ok (.goto (-38), 3) := by decide +kernel
theorem dX3_countHandedInto_46 : decode cX3_countHandedInto 46 = .ok (.iload_n 3, 1) := by decide +kernel
theorem dX3_countHandedInto_47 : decode cX3_countHandedInto 47 = .ok (.ireturn, 1) := by decide +kernel
theorem dX3_findMeeting_0 : decode cX3_findMeeting 0 = .ok (.aload_n 0, 1) := by decide +kernel
theorem dX3_findMeeting_1 : decode cX3_findMeeting 1 = .ok (.getfield 12, 3) := by decide +kernel
theorem dX3_findMeeting_4 : decode cX3_findMeeting 4 = .ok (.aload_n 1, 1) := by decide +kernel
theorem dX3_findMeeting_5 : decode cX3_findMeeting 5 = .ok (.invokevirtual 40, 3) := by decide +kernel
theorem dX3_findMeeting_8 : decode cX3_findMeeting 8 = .ok (.iconst 0, 1) := by decide +kernel
theorem dX3_findMeeting_9 : decode cX3_findMeeting 9 = .ok (.istore 4, 2) := by decide +kernel
theorem dX3_findMeeting_11 : decode cX3_findMeeting 11 = .ok (.iload 4, 2) := by decide +kernel
theorem dX3_findMeeting_13 : decode cX3_findMeeting 13 = .ok (.sipush 300, 3) := by decide +kernel
theorem dX3_findMeeting_16 : decode cX3_findMeeting 16 = .ok (.if_icmp .ge 109, 3) := by decide +kernel
theorem dX3_findMeeting_19 : decode cX3_findMeeting 19 = .ok (.aload_n 0, 1) := by decide +kernel
theorem dX3_findMeeting_20 : decode cX3_findMeeting 20 = .ok (.getfield 12, 3) := by decide +kernel
theorem dX3_findMeeting_23 : decode cX3_findMeeting 23 = .ok (.getfield 44, 3) := by decide +kernel
theorem dX3_findMeeting_26 : decode cX3_findMeeting 26 = .ok (.sipush 300, 3) := by decide +kernel
theorem dX3_findMeeting_29 : decode cX3_findMeeting 29 = .ok (.if_icmp .ge 96, 3) := by decide +kernel
theorem dX3_findMeeting_32 : decode cX3_findMeeting 32 = .ok (.aload_n 0, 1) := by decide +kernel
theorem dX3_findMeeting_33 : decode cX3_findMeeting 33 = .ok (.getfield 36, 3) := by decide +kernel
theorem dX3_findMeeting_36 : decode cX3_findMeeting 36 = .ok (.aload_n 0, 1) := by decide +kernel
theorem dX3_findMeeting_37 : decode cX3_findMeeting 37 = .ok (.getfield 12, 3) := by decide +kernel
theorem dX3_findMeeting_40 : decode cX3_findMeeting 40 = .ok (.invokevirtual 81, 3) := by decide +kernel
theorem dX3_findMeeting_43 : decode cX3_findMeeting 43 = .ok (.aload_n 0, 1) := by decide +kernel
theorem dX3_findMeeting_44 : decode cX3_findMeeting 44 = .ok (.getfield 12, 3) := by decide +kernel
theorem dX3_findMeeting_47 : decode cX3_findMeeting 47 = .ok (.iload_n 2, 1) := by decide +kernel
theorem dX3_findMeeting_48 : decode cX3_findMeeting 48 = .ok (.invokevirtual 84, 3) := by decide +kernel
theorem dX3_findMeeting_51 : decode cX3_findMeeting 51 = .ok (.istore 5, 2) := by decide +kernel
theorem dX3_findMeeting_53 : decode cX3_findMeeting 53 = .ok (.iload 5, 2) := by decide +kernel
theorem dX3_findMeeting_55 : decode cX3_findMeeting 55 = .ok (.iconst (-1), 1) := by decide +kernel
theorem dX3_findMeeting_56 : decode cX3_findMeeting 56 = .ok (.if_icmp .eq 35, 3) := by decide +kernel
theorem dX3_findMeeting_59 : decode cX3_findMeeting 59 = .ok (.aload_n 0, 1) := by decide +kernel
theorem dX3_findMeeting_60 : decode cX3_findMeeting 60 = .ok (.getfield 12, 3) := by decide +kernel
theorem dX3_findMeeting_63 : decode cX3_findMeeting 63 = .ok (.iload_n 3, 1) := by decide +kernel
theorem dX3_findMeeting_64 : decode cX3_findMeeting 64 = .ok (.invokevirtual 84, 3) := by decide +kernel
theorem dX3_findMeeting_67 : decode cX3_findMeeting 67 = .ok (.iload 5, 2) := by decide +kernel
theorem dX3_findMeeting_69 : decode cX3_findMeeting 69 = .ok (.if_icmp .ne 22, 3) := by decide +kernel
theorem dX3_findMeeting_72 : decode cX3_findMeeting 72 = .ok (.aload_n 0, 1) := by decide +kernel
theorem dX3_findMeeting_73 : decode cX3_findMeeting 73 = .ok (.aload_n 0, 1) := by decide +kernel
theorem dX3_findMeeting_74 : decode cX3_findMeeting 74 = .ok (.getfield 12, 3) := by decide +kernel
theorem dX3_findMeeting_77 : decode cX3_findMeeting 77 = .ok (.getfield 44, 3) := by decide +kernel
theorem dX3_findMeeting_80 : decode cX3_findMeeting 80 = .ok (.putfield 88, 3) := by decide +kernel
theorem dX3_findMeeting_83 : decode cX3_findMeeting 83 = .ok (.aload_n 0, 1) := by decide +kernel
theorem dX3_findMeeting_84 : decode cX3_findMeeting 84 = .ok (.iload 5, 2) := by decide +kernel
theorem dX3_findMeeting_86 : decode cX3_findMeeting 86 = .ok (.putfield 91, 3) := by decide +kernel
theorem dX3_findMeeting_89 : decode cX3_findMeeting 89 = .ok (.iconst 1, 1) := by decide +kernel
theorem dX3_findMeeting_90 : decode cX3_findMeeting 90 = .ok (.ireturn, 1) := by decide +kernel
theorem dX3_findMeeting_91 : decode cX3_findMeeting 91 = .ok (.aload_n 0, 1) := by decide +kernel
theorem dX3_findMeeting_92 : decode cX3_findMeeting 92 = .ok (.getfield 36, 3) := by decide +kernel
theorem dX3_findMeeting_95 : decode cX3_findMeeting 95 = .ok (.aload_n 0, 1) := by decide +kernel
theorem dX3_findMeeting_96 : decode cX3_findMeeting 96 = .ok (.getfield 12, 3) := by decide +kernel
theorem dX3_findMeeting_99 : decode cX3_findMeeting 99 = .ok (.invokevirtual 94, 3) := by decide +kernel
theorem dX3_findMeeting_102 : decode cX3_findMeeting 102 = .ok (.aload_n 0, 1) := by decide +kernel
theorem dX3_findMeeting_103 : decode cX3_findMeeting 103 = .ok (.getfield 36, 3) := by decide +kernel
theorem dX3_findMeeting_106 : decode cX3_findMeeting 106 = .ok (.aload_n 0, 1) := by decide +kernel
theorem dX3_findMeeting_107 : decode cX3_findMeeting 107 = .ok (.getfield 12, 3) := by decide +kernel
theorem dX3_findMeeting_110 : decode cX3_findMeeting 110 = .ok (.invokevirtual 54, 3) := by decide +kernel
theorem dX3_findMeeting_113 : decode cX3_findMeeting 113 = .ok (.ifCond .eq 6, 3) := by decide +kernel
theorem dX3_findMeeting_116 : decode cX3_findMeeting 116 = .ok (.goto 9, 3) := by decide +kernel
theorem dX3_findMeeting_119 : decode cX3_findMeeting 119 = .ok (.iinc 4 1, 3) := by decide +kernel
theorem dX3_findMeeting_122 : decode cX3_findMeeting 122 = .ok (.goto (-111), 3) := by decide +kernel
theorem dX3_findMeeting_125 : decode cX3_findMeeting 125 = .ok (.iconst 0, 1) := by decide +kernel
theorem dX3_findMeeting_126 : decode cX3_findMeeting 126 = .ok (.ireturn, 1) := by decide +kernel
theorem dX3_spread_0 : decode cX3_spread 0 = .ok (.iconst 0, 1) := by decide +kernel
theorem dX3_spread_1 : decode cX3_spread 1 = .ok (.istore_n 3, 1) := by decide +kernel
theorem dX3_spread_2 : decode cX3_spread 2 = .ok (.iload_n 3, 1) := by decide +kernel
theorem dX3_spread_3 : decode cX3_spread 3 = .ok (.bipush 7, 2) := by decide +kernel
theorem dX3_spread_5 : decode cX3_spread 5 = .ok (.if_icmp .ge 16, 3) := by decide +kernel
theorem dX3_spread_8 : decode cX3_spread 8 = .ok (.aload_n 0, 1) := by decide +kernel
theorem dX3_spread_9 : decode cX3_spread 9 = .ok (.getfield 18, 3) := by decide +kernel
theorem dX3_spread_12 : decode cX3_spread 12 = .ok (.iload_n 3, 1) := by decide +kernel
theorem dX3_spread_13 : decode cX3_spread 13 = .ok (.iconst (-1), 1) := by decide +kernel
theorem dX3_spread_14 : decode cX3_spread 14 = .ok (.iastore, 1) := by decide +kernel
theorem dX3_spread_15 : decode cX3_spread 15 = .ok (.iinc 3 1, 3) := by decide +kernel
theorem dX3_spread_18 : decode cX3_spread 18 = .ok (.goto (-16), 3) := by decide +kernel
theorem dX3_spread_21 : decode cX3_spread 21 = .ok (.iload_n 2, 1) := by decide +kernel
theorem dX3_spread_22 : decode cX3_spread 22 = .ok (.bipush 7, 2) := by decide +kernel
theorem dX3_spread_24 : decode cX3_spread 24 = .ok (.invokestatic 97, 3) := by decide +kernel
theorem dX3_spread_27 : decode cX3_spread 27 = .ok (.ifCond .eq 13, 3) := by decide +kernel
theorem dX3_spread_30 : decode cX3_spread 30 = .ok (.aload_n 0, 1) := by decide +kernel
theorem dX3_spread_31 : decode cX3_spread 31 = .ok (.getfield 18, 3) := by decide +kernel
theorem dX3_spread_34 : decode cX3_spread 34 = .ok (.iload_n 2, 1) := by decide +kernel
theorem dX3_spread_35 : decode cX3_spread 35 = .ok (.aload_n 1, 1) := by decide +kernel
theorem dX3_spread_36 : decode cX3_spread 36 = .ok (.getfield 44, 3) := by decide +kernel
theorem dX3_spread_39 : decode cX3_spread 39 = .ok (.iastore, 1) := by decide +kernel
theorem dX3_spread_40 : decode cX3_spread 40 = .ok (.aload_n 0, 1) := by decide +kernel
theorem dX3_spread_41 : decode cX3_spread 41 = .ok (.getfield 12, 3) := by decide +kernel
theorem dX3_spread_44 : decode cX3_spread 44 = .ok (.aload_n 1, 1) := by decide +kernel
theorem dX3_spread_45 : decode cX3_spread 45 = .ok (.invokevirtual 40, 3) := by decide +kernel
theorem dX3_spread_48 : decode cX3_spread 48 = .ok (.iconst 0, 1) := by decide +kernel
theorem dX3_spread_49 : decode cX3_spread 49 = .ok (.istore_n 3, 1) := by decide +kernel
theorem dX3_spread_50 : decode cX3_spread 50 = .ok (.iconst 0, 1) := by decide +kernel
theorem dX3_spread_51 : decode cX3_spread 51 = .ok (.istore 4, 2) := by decide +kernel
theorem dX3_spread_53 : decode cX3_spread 53 = .ok (.iload 4, 2) := by decide +kernel
theorem dX3_spread_55 : decode cX3_spread 55 = .ok (.sipush 300, 3) := by decide +kernel
theorem dX3_spread_58 : decode cX3_spread 58 = .ok (.if_icmp .ge 73, 3) := by decide +kernel
theorem dX3_spread_61 : decode cX3_spread 61 = .ok (.aload_n 0, 1) := by decide +kernel
theorem dX3_spread_62 : decode cX3_spread 62 = .ok (.getfield 12, 3) := by decide +kernel
theorem dX3_spread_65 : decode cX3_spread 65 = .ok (.getfield 44, 3) := by decide +kernel
theorem dX3_spread_68 : decode cX3_spread 68 = .ok (.sipush 300, 3) := by decide +kernel
theorem dX3_spread_71 : decode cX3_spread 71 = .ok (.if_icmp .ge 60, 3) := by decide +kernel
theorem dX3_spread_74 : decode cX3_spread 74 = .ok (.aload_n 0, 1) := by decide +kernel
theorem dX3_spread_75 : decode cX3_spread 75 = .ok (.getfield 36, 3) := by decide +kernel
theorem dX3_spread_78 : decode cX3_spread 78 = .ok (.aload_n 0, 1) := by decide +kernel
theorem dX3_spread_79 : decode cX3_spread 79 = .ok (.getfield 12, 3) := by decide +kernel
theorem dX3_spread_82 : decode cX3_spread 82 = .ok (.invokevirtual 81, 3) := by decide +kernel
theorem dX3_spread_85 : decode cX3_spread 85 = .ok (.aload_n 0, 1) := by decide +kernel
theorem dX3_spread_86 : decode cX3_spread 86 = .ok (.iload_n 3, 1) := by decide +kernel
theorem dX3_spread_87 : decode cX3_spread 87 = .ok (.invokevirtual 101, 3) := by decide +kernel
theorem dX3_spread_90 : decode cX3_spread 90 = .ok (.iload_n 3, 1) := by decide +kernel
theorem dX3_spread_91 : decode cX3_spread 91 = .ok (.aload_n 0, 1) := by decide +kernel
theorem dX3_spread_92 : decode cX3_spread 92 = .ok (.invokevirtual 104, 3) := by decide +kernel
theorem dX3_spread_95 : decode cX3_spread 95 = .ok (.ior, 1) := by decide +kernel
theorem dX3_spread_96 : decode cX3_spread 96 = .ok (.istore_n 3, 1) := by decide +kernel
theorem dX3_spread_97 : decode cX3_spread 97 = .ok (.aload_n 0, 1) := by decide +kernel
theorem dX3_spread_98 : decode cX3_spread 98 = .ok (.getfield 36, 3) := by decide +kernel
theorem dX3_spread_101 : decode cX3_spread 101 = .ok (.aload_n 0, 1) := by decide +kernel
theorem dX3_spread_102 : decode cX3_spread 102 = .ok (.getfield 12, 3) := by decide +kernel
theorem dX3_spread_105 : decode cX3_spread 105 = .ok (.invokevirtual 94, 3) := by decide +kernel
theorem dX3_spread_108 : decode cX3_spread 108 = .ok (.aload_n 0, 1) := by decide +kernel
theorem dX3_spread_109 : decode cX3_spread 109 = .ok (.getfield 36, 3) := by decide +kernel
theorem dX3_spread_112 : decode cX3_spread 112 = .ok (.aload_n 0, 1) := by decide +kernel
theorem dX3_spread_113 : decode cX3_spread 113 = .ok (.getfield 12, 3) := by decide +kernel
theorem dX3_spread_116 : decode cX3_spread 116 = .ok (.invokevirtual 54, 3) := by decide +kernel
theorem dX3_spread_119 : decode cX3_spread 119 = .ok (.ifCond .eq 6, 3) := by decide +kernel
theorem dX3_spread_122 : decode cX3_spread 122 = .ok (.goto 9, 3) := by decide +kernel
theorem dX3_spread_125 : decode cX3_spread 125 = .ok (.iinc 4 1, 3) := by decide +kernel
theorem dX3_spread_128 : decode cX3_spread 128 = .ok (.goto (-75), 3) := by decide +kernel
theorem dX3_spread_131 : decode cX3_spread 131 = .ok (.return_, 1) := by decide +kernel
theorem dX3_findSwap_0 : decode cX3_findSwap 0 = .ok (.aload_n 1, 1) := by decide +kernel
theorem dX3_findSwap_1 : decode cX3_findSwap 1 = .ok (.iload_n 2, 1) := by decide +kernel
theorem dX3_findSwap_2 : decode cX3_findSwap 2 = .ok (.invokevirtual 108, 3) := by decide +kernel
theorem dX3_findSwap_5 : decode cX3_findSwap 5 = .ok (.aload_n 1, 1) := by decide +kernel
theorem dX3_findSwap_6 : decode cX3_findSwap 6 = .ok (.iload_n 3, 1) := by decide +kernel
theorem dX3_findSwap_7 : decode cX3_findSwap 7 = .ok (.invokevirtual 108, 3) := by decide +kernel
theorem dX3_findSwap_10 : decode cX3_findSwap 10 = .ok (.ior, 1) := by decide +kernel
theorem dX3_findSwap_11 : decode cX3_findSwap 11 = .ok (.istore 4, 2) := by decide +kernel
theorem dX3_findSwap_13 : decode cX3_findSwap 13 = .ok (.aload_n 0, 1) := by decide +kernel
theorem dX3_findSwap_14 : decode cX3_findSwap 14 = .ok (.aload_n 1, 1) := by decide +kernel
theorem dX3_findSwap_15 : decode cX3_findSwap 15 = .ok (.invokevirtual 111, 3) := by decide +kernel
theorem dX3_findSwap_18 : decode cX3_findSwap 18 = .ok (.aload_n 0, 1) := by decide +kernel
theorem dX3_findSwap_19 : decode cX3_findSwap 19 = .ok (.aload_n 1, 1) := by decide +kernel
theorem dX3_findSwap_20 : decode cX3_findSwap 20 = .ok (.iload_n 2, 1) := by decide +kernel
theorem dX3_findSwap_21 : decode cX3_findSwap 21 = .ok (.aload_n 0, 1) := by decide +kernel
theorem dX3_findSwap_22 : decode cX3_findSwap 22 = .ok (.getfield 33, 3) := by decide +kernel
theorem dX3_findSwap_25 : decode cX3_findSwap 25 = .ok (.iconst 0, 1) := by decide +kernel
theorem dX3_findSwap_26 : decode cX3_findSwap 26 = .ok (.aaload, 1) := by decide +kernel
theorem dX3_findSwap_27 : decode cX3_findSwap 27 = .ok (.invokevirtual 114, 3) := by decide +kernel
theorem dX3_findSwap_30 : decode cX3_findSwap 30 = .ok (.aload_n 0, 1) := by decide +kernel
theorem dX3_findSwap_31 : decode cX3_findSwap 31 = .ok (.aload_n 1, 1) := by decide +kernel
theorem dX3_findSwap_32 : decode cX3_findSwap 32 = .ok (.iload_n 3, 1) := by decide +kernel
theorem dX3_findSwap_33 : decode cX3_findSwap 33 = .ok (.aload_n 0, 1) := by decide +kernel
theorem dX3_findSwap_34 : decode cX3_findSwap 34 = .ok (.getfield 33, 3) := by decide +kernel
theorem dX3_findSwap_37 : decode cX3_findSwap 37 = .ok (.iconst 1, 1) := by decide +kernel
theorem dX3_findSwap_38 : decode cX3_findSwap 38 = .ok (.aaload, 1) := by decide +kernel
theorem dX3_findSwap_39 : decode cX3_findSwap 39 = .ok (.invokevirtual 114, 3) := by decide +kernel
theorem dX3_findSwap_42 : decode cX3_findSwap 42 = .ok (.aload_n 0, 1) := by decide +kernel
theorem dX3_findSwap_43 : decode cX3_findSwap 43 = .ok (.getfield 36, 3) := by decide +kernel
theorem dX3_findSwap_46 : decode cX3_findSwap 46 = .ok (.getfield 118, 3) := by decide +kernel
theorem dX3_findSwap_49 : decode cX3_findSwap 49 = .ok (.getfield 122, 3) := by decide +kernel
theorem dX3_findSwap_52 : decode cX3_findSwap 52 = .ok (.iload_n 2, 1) := by decide +kernel
theorem dX3_findSwap_53 : decode cX3_findSwap 53 = .ok (.invokestatic 127, 3) := by decide +kernel
theorem dX3_findSwap_56 : decode cX3_findSwap 56 = .ok (.istore 5, 2) := by decide +kernel
theorem dX3_findSwap_58 : decode cX3_findSwap 58 = .ok (.aload_n 0, 1) := by decide +kernel
theorem dX3_findSwap_59 : decode cX3_findSwap 59 = .ok (.getfield 36, 3) := by decide +kernel
theorem dX3_findSwap_62 : decode cX3_findSwap 62 = .ok (.getfield 118, 3) := by decide +kernel
theorem dX3_findSwap_65 : decode cX3_findSwap 65 = .ok (.getfield 122, 3) := by decide +kernel
theorem dX3_findSwap_68 : decode cX3_findSwap 68 = .ok (.iload_n 3, 1) := by decide +kernel
theorem dX3_findSwap_69 : decode cX3_findSwap 69 = .ok (.invokestatic 127, 3) := by decide +kernel
theorem dX3_findSwap_72 : decode cX3_findSwap 72 = .ok (.istore 6, 2) := by decide +kernel
theorem dX3_findSwap_74 : decode cX3_findSwap 74 = .ok (.aload_n 0, 1) := by decide +kernel
theorem dX3_findSwap_75 : decode cX3_findSwap 75 = .ok (.iconst (-1), 1) := by decide +kernel
theorem dX3_findSwap_76 : decode cX3_findSwap 76 = .ok (.putfield 131, 3) := by decide +kernel
theorem dX3_findSwap_79 : decode cX3_findSwap 79 = .ok (.iconst 0, 1) := by decide +kernel
theorem dX3_findSwap_80 : decode cX3_findSwap 80 = .ok (.istore 7, 2) := by decide +kernel
theorem dX3_findSwap_82 : decode cX3_findSwap 82 = .ok (.iload 7, 2) := by decide +kernel
theorem dX3_findSwap_84 : decode cX3_findSwap 84 = .ok (.iload 4, 2) := by decide +kernel
theorem dX3_findSwap_86 : decode cX3_findSwap 86 = .ok (.if_icmp .gt 112, 3) := by decide +kernel
theorem dX3_findSwap_89 : decode cX3_findSwap 89 = .ok (.iload 4, 2) := by decide +kernel
theorem dX3_findSwap_91 : decode cX3_findSwap 91 = .ok (.iload 7, 2) := by decide +kernel
theorem dX3_findSwap_93 : decode cX3_findSwap 93 = .ok (.iconst (-1), 1) := by decide +kernel
theorem dX3_findSwap_94 : decode cX3_findSwap 94 = .ok (.ixor, 1) := by decide +kernel
theorem dX3_findSwap_95 : decode cX3_findSwap 95 = .ok (.iand, 1) := by decide +kernel
theorem dX3_findSwap_96 : decode cX3_findSwap 96 = .ok (.istore 8, 2) := by decide +kernel
theorem dX3_findSwap_98 : decode cX3_findSwap 98 = .ok (.iload 7, 2) := by decide +kernel
theorem dX3_findSwap_100 : decode cX3_findSwap 100 = .ok (.invokestatic 134, 3) := by decide +kernel
theorem dX3_findSwap_103 : decode cX3_findSwap 103 = .ok (.iload 5, 2) := by decide +kernel
theorem dX3_findSwap_105 : decode cX3_findSwap 105 = .ok (.if_icmp .gt 17, 3) := by decide +kernel
theorem dX3_findSwap_108 : decode cX3_findSwap 108 = .ok (.iload 8, 2) := by decide +kernel
theorem dX3_findSwap_110 : decode cX3_findSwap 110 = .ok (.invokestatic 134, 3) := by decide +kernel
theorem dX3_findSwap_113 : decode cX3_findSwap 113 = .ok (.iload 6, 2) := by decide +kernel
theorem dX3_findSwap_115 : decode cX3_findSwap 115 = .ok (.if_icmp .gt 7, 3) := by decide +kernel
theorem dX3_findSwap_118 : decode cX3_findSwap 118 = .ok (.iconst 1, 1) := by decide +kernel
theorem dX3_findSwap_119 : decode cX3_findSwap 119 = .ok (.goto 4, 3) := by decide +kernel
theorem dX3_findSwap_122 : decode cX3_findSwap 122 = .ok (.iconst 0, 1) := by decide +kernel
theorem dX3_findSwap_123 : decode cX3_findSwap 123 = .ok (.istore 9, 2) := by decide +kernel
theorem dX3_findSwap_125 : decode cX3_findSwap 125 = .ok (.iload 7, 2) := by decide +kernel
theorem dX3_findSwap_127 : decode cX3_findSwap 127 = .ok (.iload 4, 2) := by decide +kernel
theorem dX3_findSwap_129 : decode cX3_findSwap 129 = .ok (.iconst (-1), 1) := by decide +kernel
theorem dX3_findSwap_130 : decode cX3_findSwap 130 = .ok (.ixor, 1) := by decide +kernel
theorem dX3_findSwap_131 : decode cX3_findSwap 131 = .ok (.iand, 1) := by decide +kernel
theorem dX3_findSwap_132 : decode cX3_findSwap 132 = .ok (.ifCond .ne 60, 3) := by decide +kernel
theorem dX3_findSwap_135 : decode cX3_findSwap 135 = .ok (.iload 9, 2) := by decide +kernel
theorem dX3_findSwap_137 : decode cX3_findSwap 137 = .ok (.ifCond .eq 55, 3) := by decide +kernel
theorem dX3_findSwap_140 : decode cX3_findSwap 140 = .ok (.aload_n 0, 1) := by decide +kernel
theorem dX3_findSwap_141 : decode cX3_findSwap 141 = .ok (.getfield 33, 3) := by decide +kernel
theorem dX3_findSwap_144 : decode cX3_findSwap 144 = .ok (.iconst 0, 1) := by decide +kernel
theorem dX3_findSwap_145 : decode cX3_findSwap 145 = .ok (.aaload, 1) := by decide +kernel
theorem dX3_findSwap_146 : decode cX3_findSwap 146 = .ok (.iload 7, 2) := by decide +kernel
theorem dX3_findSwap_148 : decode cX3_findSwap 148 = .ok (.invokestatic 139, 3) := by decide +kernel
theorem dX3_findSwap_151 : decode cX3_findSwap 151 = .ok (.aload_n 0, 1) := by decide +kernel
theorem dX3_findSwap_152 : decode cX3_findSwap 152 = .ok (.getfield 33, 3) := by decide +kernel
theorem dX3_findSwap_155 : decode cX3_findSwap 155 = .ok (.iconst 1, 1) := by decide +kernel
theorem dX3_findSwap_156 : decode cX3_findSwap 156 = .ok (.aaload, 1) := by decide +kernel
theorem dX3_findSwap_157 : decode cX3_findSwap 157 = .ok (.iload 8, 2) := by decide +kernel
theorem dX3_findSwap_159 : decode cX3_findSwap 159 = .ok (.invokestatic 139, 3) := by decide +kernel
theorem dX3_findSwap_162 : decode cX3_findSwap 162 = .ok (.iadd, 1) := by decide +kernel
theorem dX3_findSwap_163 : decode cX3_findSwap 163 = .ok (.istore 10, 2) := by decide +kernel
theorem dX3_findSwap_165 : decode cX3_findSwap 165 = .ok (.iload 10, 2) := by decide +kernel
theorem dX3_findSwap_167 : decode cX3_findSwap 167 = .ok (.aload_n 0, 1) := by decide +kernel
theorem dX3_findSwap_168 : decode cX3_findSwap 168 = .ok (.getfield 131, 3) := by decide +kernel
theorem dX3_findSwap_171 : decode cX3_findSwap 171 = .ok (.if_icmp .le 21, 3) := by decide +kernel
theorem dX3_findSwap_174 : decode cX3_findSwap 174 = .ok (.aload_n 0, 1) := by decide +kernel
theorem dX3_findSwap_175 : decode cX3_findSwap 175 = .ok (.iload 10, 2) := by decide +kernel
theorem dX3_findSwap_177 : decode cX3_findSwap 177 = .ok (.putfield 131, 3) := by decide +kernel
theorem dX3_findSwap_180 : decode cX3_findSwap 180 = .ok (.aload_n 0, 1) := by decide +kernel
theorem dX3_findSwap_181 : decode cX3_findSwap 181 = .ok (.iload 7, 2) := by decide +kernel
theorem dX3_findSwap_183 : decode cX3_findSwap 183 = .ok (.putfield 142, 3) := by decide +kernel
theorem dX3_findSwap_186 : decode cX3_findSwap 186 = .ok (.aload_n 0, 1) := by decide +kernel
theorem dX3_findSwap_187 : decode cX3_findSwap 187 = .ok (.iload 8, 2) := by decide +kernel
theorem dX3_findSwap_189 : decode cX3_findSwap 189 = .ok (.putfield 145, 3) := by decide +kernel
theorem dX3_findSwap_192 : decode cX3_findSwap 192 = .ok (.iinc 7 1, 3) := by decide +kernel
theorem dX3_findSwap_195 : decode cX3_findSwap 195 = .ok (.goto (-113), 3) := by decide +kernel
theorem dX3_findSwap_198 : decode cX3_findSwap 198 = .ok (.return_, 1) := by decide +kernel
theorem dX3_noteBier_0 : decode cX3_noteBier 0 = .ok (.aload_n 0, 1) := by decide +kernel
theorem dX3_noteBier_1 : decode cX3_noteBier 1 = .ok (.getfield 62, 3) := by decide +kernel
theorem dX3_noteBier_4 : decode cX3_noteBier 4 = .ok (.aload_n 0, 1) := by decide +kernel
theorem dX3_noteBier_5 : decode cX3_noteBier 5 = .ok (.getfield 22, 3) := by decide +kernel
theorem dX3_noteBier_8 : decode cX3_noteBier 8 = .ok (.arraylength, 1) := by decide +kernel
theorem dX3_noteBier_9 : decode cX3_noteBier 9 = .ok (.invokestatic 97, 3) := by decide +kernel
theorem dX3_noteBier_12 : decode cX3_noteBier 12 = .ok (.ifCond .eq 44, 3) := by decide +kernel
theorem dX3_noteBier_15 : decode cX3_noteBier 15 = .ok (.iload_n 1, 1) := by decide +kernel
theorem dX3_noteBier_16 : decode cX3_noteBier 16 = .ok (.bipush 6, 2) := by decide +kernel
theorem dX3_noteBier_18 : decode cX3_noteBier 18 = .ok (.invokestatic 97, 3) := by decide +kernel
theorem dX3_noteBier_21 : decode cX3_noteBier 21 = .ok (.ifCond .eq 35, 3) := by decide +kernel
theorem dX3_noteBier_24 : decode cX3_noteBier 24 = .ok (.aload_n 0, 1) := by decide +kernel
theorem dX3_noteBier_25 : decode cX3_noteBier 25 = .ok (.getfield 22, 3) := by decide +kernel
theorem dX3_noteBier_28 : decode cX3_noteBier 28 = .ok (.aload_n 0, 1) := by decide +kernel
theorem dX3_noteBier_29 : decode cX3_noteBier 29 = .ok (.getfield 62, 3) := by decide +kernel
theorem dX3_noteBier_32 : decode cX3_noteBier 32 = .ok (.iload_n 1, 1) := by decide +kernel
theorem dX3_noteBier_33 : decode cX3_noteBier 33 = .ok (.iastore, 1) := by decide +kernel
theorem dX3_noteBier_34 : decode cX3_noteBier 34 = .ok (.aload_n 0, 1) := by decide +kernel
theorem dX3_noteBier_35 : decode cX3_noteBier 35 = .ok (.dup, 1) := by decide +kernel
theorem dX3_noteBier_36 : decode cX3_noteBier 36 = .ok (.getfield 62, 3) := by decide +kernel
theorem dX3_noteBier_39 : decode cX3_noteBier 39 = .ok (.iconst 1, 1) := by decide +kernel
theorem dX3_noteBier_40 : decode cX3_noteBier 40 = .ok (.iadd, 1) := by decide +kernel
theorem dX3_noteBier_41 : decode cX3_noteBier 41 = .ok (.putfield 62, 3) := by decide +kernel
theorem dX3_noteBier_44 : decode cX3_noteBier 44 = .ok (.aload_n 0, 1) := by decide +kernel
theorem dX3_noteBier_45 : decode cX3_noteBier 45 = .ok (.dup, 1) := by decide +kernel
theorem dX3_noteBier_46 : decode cX3_noteBier 46 = .ok (.getfield 65, 3) := by decide +kernel
theorem dX3_noteBier_49 : decode cX3_noteBier 49 = .ok (.iconst 1, 1) := by decide +kernel
theorem dX3_noteBier_50 : decode cX3_noteBier 50 = .ok (.iload_n 1, 1) := by decide +kernel
theorem dX3_noteBier_51 : decode cX3_noteBier 51 = .ok (.ishl, 1) := by decide +kernel
theorem dX3_noteBier_52 : decode cX3_noteBier 52 = .ok (.ior, 1) := by decide +kernel
theorem dX3_noteBier_53 : decode cX3_noteBier 53 = .ok (.putfield 65, 3) := by decide +kernel
theorem dX3_noteBier_56 : decode cX3_noteBier 56 = .ok (.return_, 1) := by decide +kernel
theorem dX3_layDown_0 : decode cX3_layDown 0 = .ok (.iconst 0, 1) := by decide +kernel
theorem dX3_layDown_1 : decode cX3_layDown 1 = .ok (.istore_n 2, 1) := by decide +kernel
theorem dX3_layDown_2 : decode cX3_layDown 2 = .ok (.iload_n 2, 1) := by decide +kernel
theorem dX3_layDown_3 : decode cX3_layDown 3 = .ok (.bipush 6, 2) := by decide +kernel
theorem dX3_layDown_5 : decode cX3_layDown 5 = .ok (.if_icmp .ge 112, 3) := by decide +kernel
theorem dX3_layDown_8 : decode cX3_layDown 8 = .ok (.aload_n 0, 1) := by decide +kernel
theorem dX3_layDown_9 : decode cX3_layDown 9 = .ok (.getfield 12, 3) := by decide +kernel
theorem dX3_layDown_12 : decode cX3_layDown 12 = .ok (.getfield 148, 3) := by decide +kernel
theorem dX3_layDown_15 : decode cX3_layDown 15 = .ok (.iload_n 2, 1) := by decide +kernel
theorem dX3_layDown_16 : decode cX3_layDown 16 = .ok (.iaload, 1) := by decide +kernel
theorem dX3_layDown_17 : decode cX3_layDown 17 = .ok (.iconst 1, 1) := by decide +kernel
theorem dX3_layDown_18 : decode cX3_layDown 18 = .ok (.if_icmp .eq 16, 3) := by decide +kernel
theorem dX3_layDown_21 : decode cX3_layDown 21 = .ok (.aload_n 0, 1) := by decide +kernel
theorem dX3_layDown_22 : decode cX3_layDown 22 = .ok (.getfield 12, 3) := by decide +kernel
theorem dX3_layDown_25 : decode cX3_layDown 25 = .ok (.getfield 148, 3) := by decide +kernel
theorem dX3_layDown_28 : decode cX3_layDown 28 = .ok (.iload_n 2, 1) := by decide +kernel
theorem dX3_layDown_29 : decode cX3_layDown 29 = .ok (.iaload, 1) := by decide +kernel
theorem dX3_layDown_30 : decode cX3_layDown 30 = .ok (.iconst 3, 1) := by decide +kernel
theorem dX3_layDown_31 : decode cX3_layDown 31 = .ok (.if_icmp .ne 7, 3) := by decide +kernel
theorem dX3_layDown_34 : decode cX3_layDown 34 = .ok (.iconst 1, 1) := by decide +kernel
theorem dX3_layDown_35 : decode cX3_layDown 35 = .ok (.goto 4, 3) := by decide +kernel
theorem dX3_layDown_38 : decode cX3_layDown 38 = .ok (.iconst 0, 1) := by decide +kernel
theorem dX3_layDown_39 : decode cX3_layDown 39 = .ok (.istore_n 3, 1) := by decide +kernel
theorem dX3_layDown_40 : decode cX3_layDown 40 = .ok (.aload_n 0, 1) := by decide +kernel
theorem dX3_layDown_41 : decode cX3_layDown 41 = .ok (.getfield 12, 3) := by decide +kernel
theorem dX3_layDown_44 : decode cX3_layDown 44 = .ok (.getfield 151, 3) := by decide +kernel
theorem dX3_layDown_47 : decode cX3_layDown 47 = .ok (.iload_n 2, 1) := by decide +kernel
theorem dX3_layDown_48 : decode cX3_layDown 48 = .ok (.iaload, 1) := by decide +kernel
theorem dX3_layDown_49 : decode cX3_layDown 49 = .ok (.istore 4, 2) := by decide +kernel
theorem dX3_layDown_51 : decode cX3_layDown 51 = .ok (.iload_n 1, 1) := by decide +kernel
theorem dX3_layDown_52 : decode cX3_layDown 52 = .ok (.iload_n 2, 1) := by decide +kernel
theorem dX3_layDown_53 : decode cX3_layDown 53 = .ok (.ishr, 1) := by decide +kernel
theorem dX3_layDown_54 : decode cX3_layDown 54 = .ok (.iconst 1, 1) := by decide +kernel
theorem dX3_layDown_55 : decode cX3_layDown 55 = .ok (.iand, 1) := by decide +kernel
theorem dX3_layDown_56 : decode cX3_layDown 56 = .ok (.iconst 1, 1) := by decide +kernel
theorem dX3_layDown_57 : decode cX3_layDown 57 = .ok (.if_icmp .ne 11, 3) := by decide +kernel
theorem dX3_layDown_60 : decode cX3_layDown 60 = .ok (.iload_n 3, 1) := by decide +kernel
theorem dX3_layDown_61 : decode cX3_layDown 61 = .ok (.ifCond .eq 7, 3) := by decide +kernel
theorem dX3_layDown_64 : decode cX3_layDown 64 = .ok (.iconst 1, 1) := by decide +kernel
theorem dX3_layDown_65 : decode cX3_layDown 65 = .ok (.goto 4, 3) := by decide +kernel
theorem dX3_layDown_68 : decode cX3_layDown 68 = .ok (.iconst 0, 1) := by decide +kernel
theorem dX3_layDown_69 : decode cX3_layDown 69 = .ok (.istore 5, 2) := by decide +kernel
theorem dX3_layDown_71 : decode cX3_layDown 71 = .ok (.iload 5, 2) := by decide +kernel
theorem dX3_layDown_73 : decode cX3_layDown 73 = .ok (.ifCond .eq 38, 3) := by decide +kernel
theorem dX3_layDown_76 : decode cX3_layDown 76 = .ok (.iload 4, 2) := by decide +kernel
theorem dX3_layDown_78 : decode cX3_layDown 78 = .ok (.bipush 7, 2) := by decide +kernel
theorem dX3_layDown_80 : decode cX3_layDown 80 = .ok (.invokestatic 97, 3) := by decide +kernel
theorem dX3_layDown_83 : decode cX3_layDown 83 = .ok (.ifCond .eq 28, 3) := by decide +kernel
theorem dX3_layDown_86 : decode cX3_layDown 86 = .ok (.aload_n 0, 1) := by decide +kernel
theorem dX3_layDown_87 : decode cX3_layDown 87 = .ok (.getfield 18, 3) := by decide +kernel
theorem dX3_layDown_90 : decode cX3_layDown 90 = .ok (.iload 4, 2) := by decide +kernel
theorem dX3_layDown_92 : decode cX3_layDown 92 = .ok (.iaload, 1) := by decide +kernel
theorem dX3_layDown_93 : decode cX3_layDown 93 = .ok (.iconst (-1), 1) := by decide +kernel
theorem dX3_layDown_94 : decode cX3_layDown 94 = .ok (.if_icmp .ne 17, 3) := by decide +kernel
theorem dX3_layDown_97 : decode cX3_layDown 97 = .ok (.aload_n 0, 1) := by decide +kernel
theorem dX3_layDown_98 : decode cX3_layDown 98 = .ok (.getfield 18, 3) := by decide +kernel
theorem dX3_layDown_101 : decode cX3_layDown 101 = .ok (.iload 4, 2) := by decide +kernel
theorem dX3_layDown_103 : decode cX3_layDown 103 = .ok (.aload_n 0, 1) := by decide +kernel
theorem dX3_layDown_104 : decode cX3_layDown 104 = .ok (.getfield 12, 3) := by decide +kernel
theorem dX3_layDown_107 : decode cX3_layDown 107 = .ok (.getfield 44, 3) := by decide +kernel
theorem dX3_layDown_110 : decode cX3_layDown 110 = .ok (.iastore, 1) := by decide +kernel
theorem dX3_layDown_111 : decode cX3_layDown 111 = .ok (.iinc 2 1, 3) := by decide +kernel
theorem dX3_layDown_114 : decode cX3_layDown 114 = .ok (.goto (-112), 3) := by decide +kernel
theorem dX3_layDown_117 : decode cX3_layDown 117 = .ok (.return_, 1) := by decide +kernel
theorem dX3_takeUp_0 : decode cX3_takeUp 0 = .ok (.iconst 0, 1) := by decide +kernel
theorem dX3_takeUp_1 : decode cX3_takeUp 1 = .ok (.istore_n 1, 1) := by decide +kernel
theorem dX3_takeUp_2 : decode cX3_takeUp 2 = .ok (.iconst 0, 1) := by decide +kernel
theorem dX3_takeUp_3 : decode cX3_takeUp 3 = .ok (.istore_n 2, 1) := by decide +kernel
theorem dX3_takeUp_4 : decode cX3_takeUp 4 = .ok (.iload_n 2, 1) := by decide +kernel
theorem dX3_takeUp_5 : decode cX3_takeUp 5 = .ok (.bipush 6, 2) := by decide +kernel
theorem dX3_takeUp_7 : decode cX3_takeUp 7 = .ok (.if_icmp .ge 34, 3) := by decide +kernel
theorem dX3_takeUp_10 : decode cX3_takeUp 10 = .ok (.aload_n 0, 1) := by decide +kernel
theorem dX3_takeUp_11 : decode cX3_takeUp 11 = .ok (.getfield 18, 3) := by decide +kernel
theorem dX3_takeUp_14 : decode cX3_takeUp 14 = .ok (.aload_n 0, 1) := by decide +kernel
theorem dX3_takeUp_15 : decode cX3_takeUp 15 = .ok (.getfield 12, 3) := by decide +kernel
theorem dX3_takeUp_18 : decode cX3_takeUp 18 = .ok (.iload_n 2, 1) := by decide +kernel
theorem dX3_takeUp_19 : decode cX3_takeUp 19 = .ok (.invokevirtual 84, 3) := by decide +kernel
theorem dX3_takeUp_22 : decode cX3_takeUp 22 = .ok (.invokestatic 127, 3) := by decide +kernel
theorem dX3_takeUp_25 : decode cX3_takeUp 25 = .ok (.iconst (-1), 1) := by decide +kernel
theorem dX3_takeUp_26 : decode cX3_takeUp 26 = .ok (.if_icmp .eq 9, 3) := by decide +kernel
theorem dX3_takeUp_29 : decode cX3_takeUp 29 = .ok (.iload_n 1, 1) := by decide +kernel
theorem dX3_takeUp_30 : decode cX3_takeUp 30 = .ok (.iconst 1, 1) := by decide +kernel
theorem dX3_takeUp_31 : decode cX3_takeUp 31 = .ok (.iload_n 2, 1) := by decide +kernel
theorem dX3_takeUp_32 : decode cX3_takeUp 32 = .ok (.ishl, 1) := by decide +kernel
theorem dX3_takeUp_33 : decode cX3_takeUp 33 = .ok (.ior, 1) := by decide +kernel
theorem dX3_takeUp_34 : decode cX3_takeUp 34 = .ok (.istore_n 1, 1) := by decide +kernel
theorem dX3_takeUp_35 : decode cX3_takeUp 35 = .ok (.iinc 2 1, 3) := by decide +kernel
theorem dX3_takeUp_38 : decode cX3_takeUp 38 = .ok (.goto (-34), 3) := by decide +kernel
theorem dX3_takeUp_41 : decode cX3_takeUp 41 = .ok (.iload_n 1, 1) := by decide +kernel
theorem dX3_takeUp_42 : decode cX3_takeUp 42 = .ok (.ireturn, 1) := by decide +kernel
theorem dX3_watch_0 : decode cX3_watch 0 = .ok (.iconst 0, 1) := by decide +kernel
theorem dX3_watch_1 : decode cX3_watch 1 = .ok (.istore_n 2, 1) := by decide +kernel
theorem dX3_watch_2 : decode cX3_watch 2 = .ok (.iload_n 2, 1) := by decide +kernel
theorem dX3_watch_3 : decode cX3_watch 3 = .ok (.bipush 6, 2) := by decide +kernel
theorem dX3_watch_5 : decode cX3_watch 5 = .ok (.if_icmp .ge 32, 3) := by decide +kernel
theorem dX3_watch_8 : decode cX3_watch 8 = .ok (.iconst 0, 1) := by decide +kernel
theorem dX3_watch_9 : decode cX3_watch 9 = .ok (.istore_n 3, 1) := by decide +kernel
theorem dX3_watch_10 : decode cX3_watch 10 = .ok (.iload_n 3, 1) := by decide +kernel
theorem dX3_watch_11 : decode cX3_watch 11 = .ok (.bipush 7, 2) := by decide +kernel
theorem dX3_watch_13 : decode cX3_watch 13 = .ok (.if_icmp .ge 18, 3) := by decide +kernel
theorem dX3_watch_16 : decode cX3_watch 16 = .ok (.aload_n 0, 1) := by decide +kernel
theorem dX3_watch_17 : decode cX3_watch 17 = .ok (.getfield 30, 3) := by decide +kernel
theorem dX3_watch_20 : decode cX3_watch 20 = .ok (.iload_n 2, 1) := by decide +kernel
theorem dX3_watch_21 : decode cX3_watch 21 = .ok (.aaload, 1) := by decide +kernel
theorem dX3_watch_22 : decode cX3_watch 22 = .ok (.iload_n 3, 1) := by decide +kernel
theorem dX3_watch_23 : decode cX3_watch 23 = .ok (.iconst (-1), 1) := by decide +kernel
theorem dX3_watch_24 : decode cX3_watch 24 = .ok (.iastore, 1) := by decide +kernel
theorem dX3_watch_25 : decode cX3_watch 25 = .ok (.iinc 3 1, 3) := by decide +kernel
theorem dX3_watch_28 : decode cX3_watch 28 = .ok (.goto (-18), 3) := by decide +kernel
theorem dX3_watch_31 : decode cX3_watch 31 = .ok (.iinc 2 1, 3) := by decide +kernel
theorem dX3_watch_34 : decode cX3_watch 34 = .ok (.goto (-32), 3) := by decide +kernel
theorem dX3_watch_37 : decode cX3_watch 37 = .ok (.aload_n 0, 1) := by decide +kernel
theorem dX3_watch_38 : decode cX3_watch 38 = .ok (.getfield 12, 3) := by decide +kernel
theorem dX3_watch_41 : decode cX3_watch 41 = .ok (.aload_n 1, 1) := by decide +kernel
theorem dX3_watch_42 : decode cX3_watch 42 = .ok (.invokevirtual 40, 3) := by decide +kernel
theorem dX3_watch_45 : decode cX3_watch 45 = .ok (.iconst 0, 1) := by decide +kernel
theorem dX3_watch_46 : decode cX3_watch 46 = .ok (.istore_n 2, 1) := by decide +kernel
theorem dX3_watch_47 : decode cX3_watch 47 = .ok (.iload_n 2, 1) := by decide +kernel
theorem dX3_watch_48 : decode cX3_watch 48 = .ok (.sipush 300, 3) := by decide +kernel
theorem dX3_watch_51 : decode cX3_watch 51 = .ok (.if_icmp .ge 65, 3) := by decide +kernel
theorem dX3_watch_54 : decode cX3_watch 54 = .ok (.aload_n 0, 1) := by decide +kernel
theorem dX3_watch_55 : decode cX3_watch 55 = .ok (.getfield 12, 3) := by decide +kernel
theorem dX3_watch_58 : decode cX3_watch 58 = .ok (.getfield 44, 3) := by decide +kernel
theorem dX3_watch_61 : decode cX3_watch 61 = .ok (.sipush 300, 3) := by decide +kernel
theorem dX3_watch_64 : decode cX3_watch 64 = .ok (.if_icmp .ge 52, 3) := by decide +kernel
theorem dX3_watch_67 : decode cX3_watch 67 = .ok (.aload_n 0, 1) := by decide +kernel
theorem dX3_watch_68 : decode cX3_watch 68 = .ok (.getfield 36, 3) := by decide +kernel
theorem dX3_watch_71 : decode cX3_watch 71 = .ok (.aload_n 0, 1) := by decide +kernel
theorem dX3_watch_72 : decode cX3_watch 72 = .ok (.getfield 12, 3) := by decide +kernel
theorem dX3_watch_75 : decode cX3_watch 75 = .ok (.invokevirtual 81, 3) := by decide +kernel
theorem dX3_watch_78 : decode cX3_watch 78 = .ok (.aload_n 0, 1) := by decide +kernel
theorem dX3_watch_79 : decode cX3_watch 79 = .ok (.invokevirtual 154, 3) := by decide +kernel
theorem dX3_watch_82 : decode cX3_watch 82 = .ok (.aload_n 0, 1) := by decide +kernel
theorem dX3_watch_83 : decode cX3_watch 83 = .ok (.getfield 36, 3) := by decide +kernel
theorem dX3_watch_86 : decode cX3_watch 86 = .ok (.aload_n 0, 1) := by decide +kernel
theorem dX3_watch_87 : decode cX3_watch 87 = .ok (.getfield 12, 3) := by decide +kernel
theorem dX3_watch_90 : decode cX3_watch 90 = .ok (.invokevirtual 94, 3) := by decide +kernel
theorem dX3_watch_93 : decode cX3_watch 93 = .ok (.aload_n 0, 1) := by decide +kernel
theorem dX3_watch_94 : decode cX3_watch 94 = .ok (.getfield 36, 3) := by decide +kernel
theorem dX3_watch_97 : decode cX3_watch 97 = .ok (.aload_n 0, 1) := by decide +kernel
theorem dX3_watch_98 : decode cX3_watch 98 = .ok (.getfield 12, 3) := by decide +kernel
theorem dX3_watch_101 : decode cX3_watch 101 = .ok (.invokevirtual 54, 3) := by decide +kernel
theorem dX3_watch_104 : decode cX3_watch 104 = .ok (.ifCond .eq 6, 3) := by decide +kernel
theorem dX3_watch_107 : decode cX3_watch 107 = .ok (.goto 9, 3) := by decide +kernel
theorem dX3_watch_110 : decode cX3_watch 110 = .ok (.iinc 2 1, 3) := by decide +kernel
theorem dX3_watch_113 : decode cX3_watch 113 = .ok (.goto (-66), 3) := by decide +kernel
theorem dX3_watch_116 : decode cX3_watch 116 = .ok (.return_, 1) := by decide +kernel
theorem dX3_noteStanding_0 : decode cX3_noteStanding 0 = .ok (.iconst 0, 1) := by decide +kernel
theorem dX3_noteStanding_1 : decode cX3_noteStanding 1 = .ok (.istore_n 1, 1) := by decide +kernel
theorem dX3_noteStanding_2 : decode cX3_noteStanding 2 = .ok (.iload_n 1, 1) := by decide +kernel
theorem dX3_noteStanding_3 : decode cX3_noteStanding 3 = .ok (.bipush 6, 2) := by decide +kernel
theorem dX3_noteStanding_5 : decode cX3_noteStanding 5 = .ok (.if_icmp .ge 91, 3) := by decide +kernel
theorem dX3_noteStanding_8 : decode cX3_noteStanding 8 = .ok (.aload_n 0, 1) := by decide +kernel
theorem dX3_noteStanding_9 : decode cX3_noteStanding 9 = .ok (.getfield 12, 3) := by decide +kernel
theorem dX3_noteStanding_12 : decode cX3_noteStanding 12 = .ok (.getfield 148, 3) := by decide +kernel
theorem dX3_noteStanding_15 : decode cX3_noteStanding 15 = .ok (.iload_n 1, 1) := by decide +kernel
theorem dX3_noteStanding_16 : decode cX3_noteStanding 16 = .ok (.iaload, 1) := by decide +kernel
theorem dX3_noteStanding_17 : decode cX3_noteStanding 17 = .ok (.iconst 1, 1) := by decide +kernel
theorem dX3_noteStanding_18 : decode cX3_noteStanding 18 = .ok (.if_icmp .eq 16, 3) := by decide +kernel
theorem dX3_noteStanding_21 : decode cX3_noteStanding 21 = .ok (.aload_n 0, 1) := by decide +kernel
theorem dX3_noteStanding_22 : decode cX3_noteStanding 22 = .ok (.getfield 12, 3) := by decide +kernel
theorem dX3_noteStanding_25 : decode cX3_noteStanding 25 = .ok (.getfield 148, 3) := by decide +kernel
theorem dX3_noteStanding_28 : decode cX3_noteStanding 28 = .ok (.iload_n 1, 1) := by decide +kernel
theorem dX3_noteStanding_29 : decode cX3_noteStanding 29 = .ok (.iaload, 1) := by decide +kernel
theorem dX3_noteStanding_30 : decode cX3_noteStanding 30 = .ok (.iconst 3, 1) := by decide +kernel
theorem dX3_noteStanding_31 : decode cX3_noteStanding 31 = .ok (.if_icmp .ne 7, 3) := by decide +kernel
theorem dX3_noteStanding_34 : decode cX3_noteStanding 34 = .ok (.iconst 1, 1) := by decide +kernel
theorem dX3_noteStanding_35 : decode cX3_noteStanding 35 = .ok (.goto 4, 3) := by decide +kernel
theorem dX3_noteStanding_38 : decode cX3_noteStanding 38 = .ok (.iconst 0, 1) := by decide +kernel
theorem dX3_noteStanding_39 : decode cX3_noteStanding 39 = .ok (.istore_n 2, 1) := by decide +kernel
theorem dX3_noteStanding_40 : decode cX3_noteStanding 40 = .ok (.aload_n 0, 1) := by decide +kernel
theorem dX3_noteStanding_41 : decode cX3_noteStanding 41 = .ok (.getfield 12, 3) := by decide +kernel
theorem dX3_noteStanding_44 : decode cX3_noteStanding 44 = .ok (.getfield 151, 3) := by decide +kernel
theorem dX3_noteStanding_47 : decode cX3_noteStanding 47 = .ok (.iload_n 1, 1) := by decide +kernel
theorem dX3_noteStanding_48 : decode cX3_noteStanding 48 = .ok (.iaload, 1) := by decide +kernel
theorem dX3_noteStanding_49 : decode cX3_noteStanding 49 = .ok (.istore_n 3, 1) := by decide +kernel
theorem dX3_noteStanding_50 : decode cX3_noteStanding 50 = .ok (.iload_n 2, 1) := by decide +kernel
theorem dX3_noteStanding_51 : decode cX3_noteStanding 51 = .ok (.ifCond .eq 39, 3) := by decide +kernel
theorem dX3_noteStanding_54 : decode cX3_noteStanding 54 = .ok (.iload_n 3, 1) := by decide +kernel
theorem dX3_noteStanding_55 : decode cX3_noteStanding 55 = .ok (.bipush 7, 2) := by decide +kernel
theorem dX3_noteStanding_57 : decode cX3_noteStanding 57 = .ok (.invokestatic 97, 3) := by decide +kernel
theorem dX3_noteStanding_60 : decode cX3_noteStanding 60 = .ok (.ifCond .eq 30, 3) := by decide +kernel
theorem dX3_noteStanding_63 : decode cX3_noteStanding 63 = .ok (.aload_n 0, 1) := by decide +kernel
theorem dX3_noteStanding_64 : decode cX3_noteStanding 64 = .ok (.getfield 30, 3) := by decide +kernel
theorem dX3_noteStanding_67 : decode cX3_noteStanding 67 = .ok (.iload_n 1, 1) := by decide +kernel
theorem dX3_noteStanding_68 : decode cX3_noteStanding 68 = .ok (.aaload, 1) := by decide +kernel
theorem dX3_noteStanding_69 : decode cX3_noteStanding 69 = .ok (.iload_n 3, 1) := by decide +kernel
theorem dX3_noteStanding_70 : decode cX3_noteStanding 70 = .ok (.iaload, 1) := by decide +kernel
theorem dX3_noteStanding_71 : decode cX3_noteStanding 71 = .ok (.iconst (-1), 1) := by decide +kernel
theorem dX3_noteStanding_72 : decode cX3_noteStanding 72 = .ok (.if_icmp .ne 18, 3) := by decide +kernel
theorem dX3_noteStanding_75 : decode cX3_noteStanding 75 = .ok (.aload_n 0, 1) := by decide +kernel
theorem dX3_noteStanding_76 : decode cX3_noteStanding 76 = .ok (.getfield 30, 3) := by decide +kernel
theorem dX3_noteStanding_79 : decode cX3_noteStanding 79 = .ok (.iload_n 1, 1) := by decide +kernel
theorem dX3_noteStanding_80 : decode cX3_noteStanding 80 = .ok (.aaload, 1) := by decide +kernel
theorem dX3_noteStanding_81 : decode cX3_noteStanding 81 = .ok (.iload_n 3, 1) := by decide +kernel
theorem dX3_noteStanding_82 : decode cX3_noteStanding 82 = .ok (.aload_n 0, 1) := by decide +kernel
theorem dX3_noteStanding_83 : decode cX3_noteStanding 83 = .ok (.getfield 12, 3) := by decide +kernel
theorem dX3_noteStanding_86 : decode cX3_noteStanding 86 = .ok (.getfield 44, 3) := by decide +kernel
theorem dX3_noteStanding_89 : decode cX3_noteStanding 89 = .ok (.iastore, 1) := by decide +kernel
theorem dX3_noteStanding_90 : decode cX3_noteStanding 90 = .ok (.iinc 1 1, 3) := by decide +kernel
theorem dX3_noteStanding_93 : decode cX3_noteStanding 93 = .ok (.goto (-91), 3) := by decide +kernel
theorem dX3_noteStanding_96 : decode cX3_noteStanding 96 = .ok (.return_, 1) := by decide +kernel
theorem dX3_weigh_0 : decode cX3_weigh 0 = .ok (.iconst 0, 1) := by decide +kernel
theorem dX3_weigh_1 : decode cX3_weigh 1 = .ok (.istore 4, 2) := by decide +kernel
theorem dX3_weigh_3 : decode cX3_weigh 3 = .ok (.iload 4, 2) := by decide +kernel
theorem dX3_weigh_5 : decode cX3_weigh 5 = .ok (.aload_n 3, 1) := by decide +kernel
theorem dX3_weigh_6 : decode cX3_weigh 6 = .ok (.arraylength, 1) := by decide +kernel
theorem dX3_weigh_7 : decode cX3_weigh 7 = .ok (.if_icmp .ge 82, 3) := by decide +kernel
theorem dX3_weigh_10 : decode cX3_weigh 10 = .ok (.iload 4, 2) := by decide +kernel
theorem dX3_weigh_12 : decode cX3_weigh 12 = .ok (.aload_n 1, 1) := by decide +kernel
theorem dX3_weigh_13 : decode cX3_weigh 13 = .ok (.getfield 157, 3) := by decide +kernel
theorem dX3_weigh_16 : decode cX3_weigh 16 = .ok (.if_icmp .ge 73, 3) := by decide +kernel
theorem dX3_weigh_19 : decode cX3_weigh 19 = .ok (.iload_n 2, 1) := by decide +kernel
theorem dX3_weigh_20 : decode cX3_weigh 20 = .ok (.bipush 6, 2) := by decide +kernel
theorem dX3_weigh_22 : decode cX3_weigh 22 = .ok (.invokestatic 97, 3) := by decide +kernel
theorem dX3_weigh_25 : decode cX3_weigh 25 = .ok (.ifCond .eq 22, 3) := by decide +kernel
theorem dX3_weigh_28 : decode cX3_weigh 28 = .ok (.aload_n 0, 1) := by decide +kernel
theorem dX3_weigh_29 : decode cX3_weigh 29 = .ok (.getfield 30, 3) := by decide +kernel
theorem dX3_weigh_32 : decode cX3_weigh 32 = .ok (.iload_n 2, 1) := by decide +kernel
theorem dX3_weigh_33 : decode cX3_weigh 33 = .ok (.aaload, 1) := by decide +kernel
theorem dX3_weigh_34 : decode cX3_weigh 34 = .ok (.aload_n 1, 1) := by decide +kernel
theorem dX3_weigh_35 : decode cX3_weigh 35 = .ok (.getfield 160, 3) := by decide +kernel
theorem dX3_weigh_38 : decode cX3_weigh 38 = .ok (.iload 4, 2) := by decide +kernel
theorem dX3_weigh_40 : decode cX3_weigh 40 = .ok (.iaload, 1) := by decide +kernel
theorem dX3_weigh_41 : decode cX3_weigh 41 = .ok (.invokestatic 127, 3) := by decide +kernel
theorem dX3_weigh_44 : decode cX3_weigh 44 = .ok (.goto 4, 3) := by decide +kernel
theorem dX3_weigh_47 : decode cX3_weigh 47 = .ok (.iconst (-1), 1) := by decide +kernel
theorem dX3_weigh_48 : decode cX3_weigh 48 = .ok (.istore 5, 2) := by decide +kernel
theorem dX3_weigh_50 : decode cX3_weigh 50 = .ok (.aload_n 3, 1) := by decide +kernel
theorem dX3_weigh_51 : decode cX3_weigh 51 = .ok (.iload 4, 2) := by decide +kernel
theorem dX3_weigh_53 : decode cX3_weigh 53 = .ok (.iload 5, 2) := by decide +kernel
theorem dX3_weigh_55 : decode cX3_weigh 55 = .ok (.iconst (-1), 1) := by decide +kernel
theorem dX3_weigh_56 : decode cX3_weigh 56 = .ok (.if_icmp .eq 25, 3) := by decide +kernel
theorem dX3_weigh_59 : decode cX3_weigh 59 = .ok (.iload 5, 2) := by decide +kernel
theorem dX3_weigh_61 : decode cX3_weigh 61 = .ok (.aload_n 1, 1) := by decide +kernel
theorem dX3_weigh_62 : decode cX3_weigh 62 = .ok (.getfield 163, 3) := by decide +kernel
theorem dX3_weigh_65 : decode cX3_weigh 65 = .ok (.iload 4, 2) := by decide +kernel
theorem dX3_weigh_67 : decode cX3_weigh 67 = .ok (.iaload, 1) := by decide +kernel
theorem dX3_weigh_68 : decode cX3_weigh 68 = .ok (.if_icmp .gt 13, 3) := by decide +kernel
theorem dX3_weigh_71 : decode cX3_weigh 71 = .ok (.aload_n 1, 1) := by decide +kernel
theorem dX3_weigh_72 : decode cX3_weigh 72 = .ok (.getfield 166, 3) := by decide +kernel
theorem dX3_weigh_75 : decode cX3_weigh 75 = .ok (.iload 4, 2) := by decide +kernel
theorem dX3_weigh_77 : decode cX3_weigh 77 = .ok (.iaload, 1) := by decide +kernel
theorem dX3_weigh_78 : decode cX3_weigh 78 = .ok (.goto 4, 3) := by decide +kernel
theorem dX3_weigh_81 : decode cX3_weigh 81 = .ok (.iconst 0, 1) := by decide +kernel
theorem dX3_weigh_82 : decode cX3_weigh 82 = .ok (.iastore, 1) := by decide +kernel
theorem dX3_weigh_83 : decode cX3_weigh 83 = .ok (.iinc 4 1, 3) := by decide +kernel
theorem dX3_weigh_86 : decode cX3_weigh 86 = .ok (.goto (-83), 3) := by decide +kernel
theorem dX3_weigh_89 : decode cX3_weigh 89 = .ok (.return_, 1) := by decide +kernel
theorem dX3_sum_0 : decode cX3_sum 0 = .ok (.iconst 0, 1) := by decide +kernel
theorem dX3_sum_1 : decode cX3_sum 1 = .ok (.istore_n 2, 1) := by decide +kernel
theorem dX3_sum_2 : decode cX3_sum 2 = .ok (.iconst 0, 1) := by decide +kernel
theorem dX3_sum_3 : decode cX3_sum 3 = .ok (.istore_n 3, 1) := by decide +kernel
theorem dX3_sum_4 : decode cX3_sum 4 = .ok (.iload_n 3, 1) := by decide +kernel
theorem dX3_sum_5 : decode cX3_sum 5 = .ok (.aload_n 0, 1) := by decide +kernel
theorem dX3_sum_6 : decode cX3_sum 6 = .ok (.arraylength, 1) := by decide +kernel
theorem dX3_sum_7 : decode cX3_sum 7 = .ok (.if_icmp .ge 24, 3) := by decide +kernel
theorem dX3_sum_10 : decode cX3_sum 10 = .ok (.iload_n 1, 1) := by decide +kernel
theorem dX3_sum_11 : decode cX3_sum 11 = .ok (.iload_n 3, 1) := by decide +kernel
theorem dX3_sum_12 : decode cX3_sum 12 = .ok (.ishr, 1) := by decide +kernel
theorem dX3_sum_13 : decode cX3_sum 13 = .ok (.iconst 1, 1) := by decide +kernel
theorem dX3_sum_14 : decode cX3_sum 14 = .ok (.iand, 1) := by decide +kernel
theorem dX3_sum_15 : decode cX3_sum 15 = .ok (.iconst 1, 1) := by decide +kernel
theorem dX3_sum_16 : decode cX3_sum 16 = .ok (.if_icmp .ne 9, 3) := by decide +kernel
theorem dX3_sum_19 : decode cX3_sum 19 = .ok (.iload_n 2, 1) := by decide +kernel
theorem dX3_sum_20 : decode cX3_sum 20 = .ok (.aload_n 0, 1) := by decide +kernel
theorem dX3_sum_21 : decode cX3_sum 21 = .ok (.iload_n 3, 1) := by decide +kernel
theorem dX3_sum_22 : decode cX3_sum 22 = .ok (.iaload, 1) := by decide +kernel
theorem dX3_sum_23 : decode cX3_sum 23 = .ok (.iadd, 1) := by decide +kernel
theorem dX3_sum_24 : decode cX3_sum 24 = .ok (.istore_n 2, 1) := by decide +kernel
theorem dX3_sum_25 : decode cX3_sum 25 = .ok (.iinc 3 1, 3) := by decide +kernel
theorem dX3_sum_28 : decode cX3_sum 28 = .ok (.goto (-24), 3) := by decide +kernel
theorem dX3_sum_31 : decode cX3_sum 31 = .ok (.iload_n 2, 1) := by decide +kernel
theorem dX3_sum_32 : decode cX3_sum 32 = .ok (.ireturn, 1) := by decide +kernel
theorem dX4_init_0 : decode cX4_init 0 = .ok (.aload_n 0, 1) := by decide +kernel
theorem dX4_init_1 : decode cX4_init 1 = .ok (.invokespecial 3, 3) := by decide +kernel
theorem dX4_init_4 : decode cX4_init 4 = .ok (.aload_n 0, 1) := by decide +kernel
theorem dX4_init_5 : decode cX4_init 5 = .ok (.bipush 30, 2) := by decide +kernel
theorem dX4_init_7 : decode cX4_init 7 = .ok (.newarray .int, 2) := by decide +kernel
theorem dX4_init_9 : decode cX4_init 9 = .ok (.putfield 9, 3) := by decide +kernel
theorem dX4_init_12 : decode cX4_init 12 = .ok (.aload_n 0, 1) := by decide +kernel
theorem dX4_init_13 : decode cX4_init 13 = .ok (.bipush 30, 2) := by decide +kernel
theorem dX4_init_15 : decode cX4_init 15 = .ok (.newarray .boolean, 2) := by decide +kernel
theorem dX4_init_17 : decode cX4_init 17 = .ok (.putfield 15, 3) := by decide +kernel
theorem dX4_init_20 : decode cX4_init 20 = .ok (.aload_n 0, 1) := by decide +kernel
theorem dX4_init_21 : decode cX4_init 21 = .ok (.bipush 30, 2) := by decide +kernel
theorem dX4_init_23 : decode cX4_init 23 = .ok (.newarray .int, 2) := by decide +kernel
theorem dX4_init_25 : decode cX4_init 25 = .ok (.putfield 19, 3) := by decide +kernel
theorem dX4_init_28 : decode cX4_init 28 = .ok (.aload_n 0, 1) := by decide +kernel
theorem dX4_init_29 : decode cX4_init 29 = .ok (.bipush 30, 2) := by decide +kernel
theorem dX4_init_31 : decode cX4_init 31 = .ok (.newarray .int, 2) := by decide +kernel
theorem dX4_init_33 : decode cX4_init 33 = .ok (.putfield 22, 3) := by decide +kernel
theorem dX4_init_36 : decode cX4_init 36 = .ok (.return_, 1) := by decide +kernel
theorem dX4_tell_0 : decode cX4_tell 0 = .ok (.aload_n 0, 1) := by decide +kernel
theorem dX4_tell_1 : decode cX4_tell 1 = .ok (.getfield 25, 3) := by decide +kernel
theorem dX4_tell_4 : decode cX4_tell 4 = .ok (.istore_n 3, 1) := by decide +kernel
theorem dX4_tell_5 : decode cX4_tell 5 = .ok (.iload_n 3, 1) := by decide +kernel
theorem dX4_tell_6 : decode cX4_tell 6 = .ok (.bipush 30, 2) := by decide +kernel
theorem dX4_tell_8 : decode cX4_tell 8 = .ok (.invokestatic 29, 3) := by decide +kernel
theorem dX4_tell_11 : decode cX4_tell 11 = .ok (.ifCond .ne 5, 3) := by decide +kernel
theorem dX4_tell_14 : decode cX4_tell 14 = .ok (.iconst (-1), 1) := by decide +kernel
theorem dX4_tell_15 : decode cX4_tell 15 = .ok (.ireturn, 1) := by decide +kernel
theorem dX4_tell_16 : decode cX4_tell 16 = .ok (.aload_n 0, 1) := by decide +kernel
theorem dX4_tell_17 : decode cX4_tell 17 = .ok (.getfield 9, 3) := by decide +kernel
theorem dX4_tell_20 : decode cX4_tell 20 = .ok (.iload_n 3, 1) := by decide +kernel
theorem dX4_tell_21 : decode cX4_tell 21 = .ok (.iload_n 1, 1) := by decide +kernel
theorem dX4_tell_22 : decode cX4_tell 22 = .ok (.iastore, 1) := by decide +kernel
theorem dX4_tell_23 : decode cX4_tell 23 = .ok (.aload_n 0, 1) := by decide +kernel
theorem dX4_tell_24 : decode cX4_tell 24 = .ok (.getfield 15, 3) := by decide +kernel
theorem dX4_tell_27 : decode cX4_tell 27 = .ok (.iload_n 3, 1) := by decide +kernel
theorem dX4_tell_28 : decode cX4_tell 28 = .ok (.iload_n 2, 1) := by decide +kernel
theorem dX4_tell_29 : decode cX4_tell 29 = .ok (.bastore, 1) := by decide +kernel
theorem dX4_tell_30 : decode cX4_tell 30 = .ok (.aload_n 0, 1) := by decide +kernel
theorem dX4_tell_31 : decode cX4_tell 31 = .ok (.getfield 19, 3) := by decide +kernel
theorem dX4_tell_34 : decode cX4_tell 34 = .ok (.iload_n 3, 1) := by decide +kernel
theorem dX4_tell_35 : decode cX4_tell 35 = .ok (.aload_n 0, 1) := by decide +kernel
theorem dX4_tell_36 : decode cX4_tell 36 = .ok (.getfield 33, 3) := by decide +kernel
theorem dX4_tell_39 : decode cX4_tell 39 = .ok (.iastore, 1) := by decide +kernel
theorem dX4_tell_40 : decode cX4_tell 40 = .ok (.aload_n 0, 1) := by decide +kernel
theorem dX4_tell_41 : decode cX4_tell 41 = .ok (.getfield 22, 3) := by decide +kernel
theorem dX4_tell_44 : decode cX4_tell 44 = .ok (.iload_n 3, 1) := by decide +kernel
theorem dX4_tell_45 : decode cX4_tell 45 = .ok (.iconst (-1), 1) := by decide +kernel
theorem dX4_tell_46 : decode cX4_tell 46 = .ok (.iastore, 1) := by decide +kernel
theorem dX4_tell_47 : decode cX4_tell 47 = .ok (.aload_n 0, 1) := by decide +kernel
theorem dX4_tell_48 : decode cX4_tell 48 = .ok (.dup, 1) := by decide +kernel
theorem dX4_tell_49 : decode cX4_tell 49 = .ok (.getfield 25, 3) := by decide +kernel
theorem dX4_tell_52 : decode cX4_tell 52 = .ok (.iconst 1, 1) := by decide +kernel
theorem dX4_tell_53 : decode cX4_tell 53 = .ok (.iadd, 1) := by decide +kernel
theorem dX4_tell_54 : decode cX4_tell 54 = .ok (.putfield 25, 3) := by decide +kernel
theorem dX4_tell_57 : decode cX4_tell 57 = .ok (.iload_n 3, 1) := by decide +kernel
theorem dX4_tell_58 : decode cX4_tell 58 = .ok (.ireturn, 1) := by decide +kernel
theorem dX4_forget_0 : decode cX4_forget 0 = .ok (.iload_n 1, 1) := by decide +kernel
theorem dX4_forget_1 : decode cX4_forget 1 = .ok (.aload_n 0, 1) := by decide +kernel
theorem dX4_forget_2 : decode cX4_forget 2 = .ok (.getfield 25, 3) := by decide +kernel
theorem dX4_forget_5 : decode cX4_forget 5 = .ok (.invokestatic 29, 3) := by decide +kernel
theorem dX4_forget_8 : decode cX4_forget 8 = .ok (.ifCond .eq 13, 3) := by decide +kernel
theorem dX4_forget_11 : decode cX4_forget 11 = .ok (.aload_n 0, 1) := by decide +kernel
theorem dX4_forget_12 : decode cX4_forget 12 = .ok (.getfield 22, 3) := by decide +kernel
theorem dX4_forget_15 : decode cX4_forget 15 = .ok (.iload_n 1, 1) := by decide +kernel
theorem dX4_forget_16 : decode cX4_forget 16 = .ok (.iaload, 1) := by decide +kernel
theorem dX4_forget_17 : decode cX4_forget 17 = .ok (.iconst (-1), 1) := by decide +kernel
theorem dX4_forget_18 : decode cX4_forget 18 = .ok (.if_icmp .eq 5, 3) := by decide +kernel
theorem dX4_forget_21 : decode cX4_forget 21 = .ok (.iconst 0, 1) := by decide +kernel
theorem dX4_forget_22 : decode cX4_forget 22 = .ok (.ireturn, 1) := by decide +kernel
theorem dX4_forget_23 : decode cX4_forget 23 = .ok (.aload_n 0, 1) := by decide +kernel
theorem dX4_forget_24 : decode cX4_forget 24 = .ok (.getfield 22, 3) := by decide +kernel
theorem dX4_forget_27 : decode cX4_forget 27 = .ok (.iload_n 1, 1) := by decide +kernel
theorem dX4_forget_28 : decode cX4_forget 28 = .ok (.aload_n 0, 1) := by decide +kernel
theorem dX4_forget_29 : decode cX4_forget 29 = .ok (.getfield 33, 3) := by decide +kernel
theorem dX4_forget_32 : decode cX4_forget 32 = .ok (.iastore, 1) := by decide +kernel
theorem dX4_forget_33 : decode cX4_forget 33 = .ok (.iconst 1, 1) := by decide +kernel
theorem dX4_forget_34 : decode cX4_forget 34 = .ok (.ireturn, 1) := by decide +kernel
theorem dX4_biersThat_0 : decode cX4_biersThat 0 = .ok (.iconst 0, 1) := by decide +kernel
theorem dX4_biersThat_1 : decode cX4_biersThat 1 = .ok (.istore_n 3, 1) := by decide +kernel
theorem dX4_biersThat_2 : decode cX4_biersThat 2 = .ok (.iconst 0, 1) := by decide +kernel
theorem dX4_biersThat_3 : decode cX4_biersThat 3 = .ok (.istore 4, 2) := by decide +kernel
theorem dX4_biersThat_5 : decode cX4_biersThat 5 = .ok (.iload 4, 2) := by decide +kernel
theorem dX4_biersThat_7 : decode cX4_biersThat 7 = .ok (.aload_n 0, 1) := by decide +kernel
theorem dX4_biersThat_8 : decode cX4_biersThat 8 = .ok (.getfield 25, 3) := by decide +kernel
theorem dX4_biersThat_11 : decode cX4_biersThat 11 = .ok (.if_icmp .ge 77, 3) := by decide +kernel
theorem dX4_biersThat_14 : decode cX4_biersThat 14 = .ok (.aload_n 0, 1) := by decide +kernel
theorem dX4_biersThat_15 : decode cX4_biersThat 15 = .ok (.getfield 22, 3) := by decide +kernel
theorem dX4_biersThat_18 : decode cX4_biersThat 18 = .ok (.iload 4, 2) := by decide +kernel
theorem dX4_biersThat_20 : decode cX4_biersThat 20 = .ok (.iaload, 1) := by decide +kernel
theorem dX4_biersThat_21 : decode cX4_biersThat 21 = .ok (.iconst (-1), 1) := by decide +kernel
theorem dX4_biersThat_22 : decode cX4_biersThat 22 = .ok (.if_icmp .eq 18, 3) := by decide +kernel
theorem dX4_biersThat_25 : decode cX4_biersThat 25 = .ok (.aload_n 0, 1) := by decide +kernel
theorem dX4_biersThat_26 : decode cX4_biersThat 26 = .ok (.getfield 22, 3) := by decide +kernel
theorem dX4_biersThat_29 : decode cX4_biersThat 29 = .ok (.iload 4, 2) := by decide +kernel
theorem dX4_biersThat_31 : decode cX4_biersThat 31 = .ok (.iaload, 1) := by decide +kernel
theorem dX4_biersThat_32 : decode cX4_biersThat 32 = .ok (.iload_n 2, 1) := by decide +kernel
theorem dX4_biersThat_33 : decode cX4_biersThat 33 = .ok (.if_icmp .gt 7, 3) := by decide +kernel
theorem dX4_biersThat_36 : decode cX4_biersThat 36 = .ok (.iconst 1, 1) := by decide +kernel
theorem dX4_biersThat_37 : decode cX4_biersThat 37 = .ok (.goto 4, 3) := by decide +kernel
theorem dX4_biersThat_40 : decode cX4_biersThat 40 = .ok (.iconst 0, 1) := by decide +kernel
theorem dX4_biersThat_41 : decode cX4_biersThat 41 = .ok (.istore 5, 2) := by decide +kernel
theorem dX4_biersThat_43 : decode cX4_biersThat 43 = .ok (.aload_n 0, 1) := by decide +kernel
theorem dX4_biersThat_44 : decode cX4_biersThat 44 = .ok (.getfield 15, 3) := by decide +kernel
theorem dX4_biersThat_47 : decode cX4_biersThat 47 = .ok (.iload 4, 2) := by decide +kernel
theorem dX4_biersThat_49 : decode cX4_biersThat 49 = .ok (.baload, 1) := by decide +kernel
theorem dX4_biersThat_50 : decode cX4_biersThat 50 = .ok (.iload_n 1, 1) := by decide +kernel
theorem dX4_biersThat_51 : decode cX4_biersThat 51 = .ok (.if_icmp .ne 31, 3) := by decide +kernel
theorem dX4_biersThat_54 : decode cX4_biersThat 54 = .ok (.aload_n 0, 1) := by decide +kernel
theorem dX4_biersThat_55 : decode cX4_biersThat 55 = .ok (.getfield 19, 3) := by decide +kernel
theorem dX4_biersThat_58 : decode cX4_biersThat 58 = .ok (.iload 4, 2) := by decide +kernel
theorem dX4_biersThat_60 : decode cX4_biersThat 60 = .ok (.iaload, 1) := by decide +kernel
theorem dX4_biersThat_61 : decode cX4_biersThat 61 = .ok (.iload_n 2, 1) := by decide +kernel
theorem dX4_biersThat_62 : decode cX4_biersThat 62 = .ok (.if_icmp .gt 20, 3) := by decide +kernel
theorem dX4_biersThat_65 : decode cX4_biersThat 65 = .ok (.iload 5, 2) := by decide +kernel
theorem dX4_biersThat_67 : decode cX4_biersThat 67 = .ok (.ifCond .ne 15, 3) := by decide +kernel
theorem dX4_biersThat_70 : decode cX4_biersThat 70 = .ok (.iload_n 3, 1) := by decide +kernel
theorem dX4_biersThat_71 : decode cX4_biersThat 71 = .ok (.iconst 1, 1) := by decide +kernel
theorem dX4_biersThat_72 : decode cX4_biersThat 72 = .ok (.aload_n 0, 1) := by decide +kernel
theorem dX4_biersThat_73 : decode cX4_biersThat 73 = .ok (.getfield 9, 3) := by decide +kernel
theorem dX4_biersThat_76 : decode cX4_biersThat 76 = .ok (.iload 4, 2) := by decide +kernel
theorem dX4_biersThat_78 : decode cX4_biersThat 78 = .ok (.iaload, 1) := by decide +kernel
theorem dX4_biersThat_79 : decode cX4_biersThat 79 = .ok (.ishl, 1) := by decide +kernel
theorem dX4_biersThat_80 : decode cX4_biersThat 80 = .ok (.ior, 1) := by decide +kernel
theorem dX4_biersThat_81 : decode cX4_biersThat 81 = .ok (.istore_n 3, 1) := by decide +kernel
theorem dX4_biersThat_82 : decode cX4_biersThat 82 = .ok (.iinc 4 1, 3) := by decide +kernel
theorem dX4_biersThat_85 : decode cX4_biersThat 85 = .ok (.goto (-80), 3) := by decide +kernel
theorem dX4_biersThat_88 : decode cX4_biersThat 88 = .ok (.iload_n 3, 1) := by decide +kernel
theorem dX4_biersThat_89 : decode cX4_biersThat 89 = .ok (.ireturn, 1) := by decide +kernel
theorem dX5_init_0 : decode cX5_init 0 = .ok (.aload_n 0, 1) := by decide +kernel
theorem dX5_init_1 : decode cX5_init 1 = .ok (.invokespecial 3, 3) := by decide +kernel
theorem dX5_init_4 : decode cX5_init 4 = .ok (.aload_n 0, 1) := by decide +kernel
theorem dX5_init_5 : decode cX5_init 5 = .ok (.iload_n 1, 1) := by decide +kernel
theorem dX5_init_6 : decode cX5_init 6 = .ok (.iconst 0, 1) := by decide +kernel
theorem dX5_init_7 : decode cX5_init 7 = .ok (.invokestatic 9, 3) := by decide +kernel
theorem dX5_init_10 : decode cX5_init 10 = .ok (.newarray .long, 2) := by decide +kernel
theorem dX5_init_12 : decode cX5_init 12 = .ok (.putfield 15, 3) := by decide +kernel
theorem dX5_init_15 : decode cX5_init 15 = .ok (.return_, 1) := by decide +kernel
theorem dX5_isFull_0 : decode cX5_isFull 0 = .ok (.aload_n 0, 1) := by decide +kernel
theorem dX5_isFull_1 : decode cX5_isFull 1 = .ok (.getfield 21, 3) := by decide +kernel
theorem dX5_isFull_4 : decode cX5_isFull 4 = .ok (.aload_n 0, 1) := by decide +kernel
theorem dX5_isFull_5 : decode cX5_isFull 5 = .ok (.getfield 15, 3) := by decide +kernel
theorem dX5_isFull_8 : decode cX5_isFull 8 = .ok (.arraylength, 1) := by decide +kernel
theorem dX5_isFull_9 : decode cX5_isFull 9 = .ok (.if_icmp .lt 7, 3) := by decide +kernel
theorem dX5_isFull_12 : decode cX5_isFull 12 = .ok (.iconst 1, 1) := by decide +kernel
theorem dX5_isFull_13 : decode cX5_isFull 13 = .ok (.goto 4, 3) := by decide +kernel
theorem dX5_isFull_16 : decode cX5_isFull 16 = .ok (.iconst 0, 1) := by decide +kernel
theorem dX5_isFull_17 : decode cX5_isFull 17 = .ok (.ireturn, 1) := by decide +kernel
theorem dX5_find_0 : decode cX5_find 0 = .ok (.iconst 0, 1) := by decide +kernel
theorem dX5_find_1 : decode cX5_find 1 = .ok (.istore_n 3, 1) := by decide +kernel
theorem dX5_find_2 : decode cX5_find 2 = .ok (.iload_n 3, 1) := by decide +kernel
theorem dX5_find_3 : decode cX5_find 3 = .ok (.aload_n 0, 1) := by decide +kernel
theorem dX5_find_4 : decode cX5_find 4 = .ok (.getfield 21, 3) := by decide +kernel
theorem dX5_find_7 : decode cX5_find 7 = .ok (.if_icmp .ge 22, 3) := by decide +kernel
theorem dX5_find_10 : decode cX5_find 10 = .ok (.aload_n 0, 1) := by decide +kernel
theorem dX5_find_11 : decode cX5_find 11 = .ok (.getfield 15, 3) := by decide +kernel
theorem dX5_find_14 : decode cX5_find 14 = .ok (.iload_n 3, 1) := by decide +kernel
theorem dX5_find_15 : decode cX5_find 15 = .ok (.laload, 1) := by decide +kernel
theorem dX5_find_16 : decode cX5_find 16 = .ok (.lload_n 1, 1) := by decide +kernel
theorem dX5_find_17 : decode cX5_find 17 = .ok (.lcmp, 1) := by decide +kernel
theorem dX5_find_18 : decode cX5_find 18 = .ok (.ifCond .ne 5, 3) := by decide +kernel
theorem dX5_find_21 : decode cX5_find 21 = .ok (.iload_n 3, 1) := by decide +kernel
theorem dX5_find_22 : decode cX5_find 22 = .ok (.ireturn, 1) := by decide +kernel
theorem dX5_find_23 : decode cX5_find 23 = .ok (.iinc 3 1, 3) := by decide +kernel
theorem dX5_find_26 : decode cX5_find 26 = .ok (.goto (-24), 3) := by decide +kernel
theorem dX5_find_29 : decode cX5_find 29 = .ok (.iconst (-1), 1) := by decide +kernel
theorem dX5_find_30 : decode cX5_find 30 = .ok (.ireturn, 1) := by decide +kernel
theorem dX5_add_0 : decode cX5_add 0 = .ok (.aload_n 0, 1) := by decide +kernel
theorem dX5_add_1 : decode cX5_add 1 = .ok (.getfield 21, 3) := by decide +kernel
theorem dX5_add_4 : decode cX5_add 4 = .ok (.ifCond .lt 35, 3) := by decide +kernel
theorem dX5_add_7 : decode cX5_add 7 = .ok (.aload_n 0, 1) := by decide +kernel
theorem dX5_add_8 : decode cX5_add 8 = .ok (.getfield 21, 3) := by decide +kernel
theorem dX5_add_11 : decode cX5_add 11 = .ok (.aload_n 0, 1) := by decide +kernel
theorem dX5_add_12 : decode cX5_add 12 = .ok (.getfield 15, 3) := by decide +kernel
theorem dX5_add_15 : decode cX5_add 15 = .ok (.arraylength, 1) := by decide +kernel
theorem dX5_add_16 : decode cX5_add 16 = .ok (.if_icmp .ge 23, 3) := by decide +kernel
theorem dX5_add_19 : decode cX5_add 19 = .ok (.aload_n 0, 1) := by decide +kernel
theorem dX5_add_20 : decode cX5_add 20 = .ok (.getfield 15, 3) := by decide +kernel
theorem dX5_add_23 : decode cX5_add 23 = .ok (.aload_n 0, 1) := by decide +kernel
theorem dX5_add_24 : decode cX5_add 24 = .ok (.getfield 21, 3) := by decide +kernel
theorem dX5_add_27 : decode cX5_add 27 = .ok (.lload_n 1, 1) := by decide +kernel
theorem dX5_add_28 : decode cX5_add 28 = .ok (.lastore, 1) := by decide +kernel
theorem dX5_add_29 : decode cX5_add 29 = .ok (.aload_n 0, 1) := by decide +kernel
theorem dX5_add_30 : decode cX5_add 30 = .ok (.dup, 1) := by decide +kernel
theorem dX5_add_31 : decode cX5_add 31 = .ok (.getfield 21, 3) := by decide +kernel
theorem dX5_add_34 : decode cX5_add 34 = .ok (.iconst 1, 1) := by decide +kernel
theorem dX5_add_35 : decode cX5_add 35 = .ok (.iadd, 1) := by decide +kernel
theorem dX5_add_36 : decode cX5_add 36 = .ok (.putfield 21, 3) := by decide +kernel
theorem dX5_add_39 : decode cX5_add 39 = .ok (.return_, 1) := by decide +kernel
theorem dX6_init_0 : decode cX6_init 0 = .ok (.aload_n 0, 1) := by decide +kernel
theorem dX6_init_1 : decode cX6_init 1 = .ok (.invokespecial 3, 3) := by decide +kernel
theorem dX6_init_4 : decode cX6_init 4 = .ok (.aload_n 0, 1) := by decide +kernel
theorem dX6_init_5 : decode cX6_init 5 = .ok (.bipush 41, 2) := by decide +kernel
theorem dX6_init_7 : decode cX6_init 7 = .ok (.anewarray 11, 3) := by decide +kernel
theorem dX6_init_10 : decode cX6_init 10 = .ok (.putfield 13, 3) := by decide +kernel
theorem dX6_init_13 : decode cX6_init 13 = .ok (.iconst 0, 1) := by decide +kernel
theorem dX6_init_14 : decode cX6_init 14 = .ok (.istore_n 1, 1) := by decide +kernel
theorem dX6_init_15 : decode cX6_init 15 = .ok (.iload_n 1, 1) := by decide +kernel
theorem dX6_init_16 : decode cX6_init 16 = .ok (.bipush 41, 2) := by decide +kernel
theorem dX6_init_18 : decode cX6_init 18 = .ok (.if_icmp .ge 22, 3) := by decide +kernel
theorem dX6_init_21 : decode cX6_init 21 = .ok (.aload_n 0, 1) := by decide +kernel
theorem dX6_init_22 : decode cX6_init 22 = .ok (.getfield 13, 3) := by decide +kernel
theorem dX6_init_25 : decode cX6_init 25 = .ok (.iload_n 1, 1) := by decide +kernel
theorem dX6_init_26 : decode cX6_init 26 = .ok (.new 11, 3) := by decide +kernel
theorem dX6_init_29 : decode cX6_init 29 = .ok (.dup, 1) := by decide +kernel
theorem dX6_init_30 : decode cX6_init 30 = .ok (.invokespecial 17, 3) := by decide +kernel
theorem dX6_init_33 : decode cX6_init 33 = .ok (.aastore, 1) := by decide +kernel
theorem dX6_init_34 : decode cX6_init 34 = .ok (.iinc 1 1, 3) := by decide +kernel
theorem dX6_init_37 : decode cX6_init 37 = .ok (.goto (-22), 3) := by decide +kernel
theorem dX6_init_40 : decode cX6_init 40 = .ok (.return_, 1) := by decide +kernel
theorem dX6_begin_0 : decode cX6_begin 0 = .ok (.aload_n 0, 1) := by decide +kernel
theorem dX6_begin_1 : decode cX6_begin 1 = .ok (.iconst 0, 1) := by decide +kernel
theorem dX6_begin_2 : decode cX6_begin 2 = .ok (.putfield 18, 3) := by decide +kernel
theorem dX6_begin_5 : decode cX6_begin 5 = .ok (.aload_n 0, 1) := by decide +kernel
theorem dX6_begin_6 : decode cX6_begin 6 = .ok (.iconst 0, 1) := by decide +kernel
theorem dX6_begin_7 : decode cX6_begin 7 = .ok (.putfield 22, 3) := by decide +kernel
theorem dX6_begin_10 : decode cX6_begin 10 = .ok (.aload_n 0, 1) := by decide +kernel
theorem dX6_begin_11 : decode cX6_begin 11 = .ok (.iconst 0, 1) := by decide +kernel
theorem dX6_begin_12 : decode cX6_begin 12 = .ok (.putfield 25, 3) := by decide +kernel
theorem dX6_begin_15 : decode cX6_begin 15 = .ok (.aload_n 0, 1) := by decide +kernel
theorem dX6_begin_16 : decode cX6_begin 16 = .ok (.getfield 13, 3) := by decide +kernel
theorem dX6_begin_19 : decode cX6_begin 19 = .ok (.iconst 0, 1) := by decide +kernel
theorem dX6_begin_20 : decode cX6_begin 20 = .ok (.aaload, 1) := by decide +kernel
theorem dX6_begin_21 : decode cX6_begin 21 = .ok (.aload_n 1, 1) := by decide +kernel
theorem dX6_begin_22 : decode cX6_begin 22 = .ok (.invokevirtual 28, 3) := by decide +kernel
theorem dX6_begin_25 : decode cX6_begin 25 = .ok (.return_, 1) := by decide +kernel
theorem dX6_keep_0 : decode cX6_keep 0 = .ok (.aload_n 0, 1) := by decide +kernel
theorem dX6_keep_1 : decode cX6_keep 1 = .ok (.dup, 1) := by decide +kernel
theorem dX6_keep_2 : decode cX6_keep 2 = .ok (.getfield 22, 3) := by decide +kernel
theorem dX6_keep_5 : decode cX6_keep 5 = .ok (.iconst 1, 1) := by decide +kernel
theorem dX6_keep_6 : decode cX6_keep 6 = .ok (.iadd, 1) := by decide +kernel
theorem dX6_keep_7 : decode cX6_keep 7 = .ok (.putfield 22, 3) := by decide +kernel
theorem dX6_keep_10 : decode cX6_keep 10 = .ok (.aload_n 0, 1) := by decide +kernel
theorem dX6_keep_11 : decode cX6_keep 11 = .ok (.aload_n 0, 1) := by decide +kernel
theorem dX6_keep_12 : decode cX6_keep 12 = .ok (.getfield 22, 3) := by decide +kernel
theorem dX6_keep_15 : decode cX6_keep 15 = .ok (.putfield 25, 3) := by decide +kernel
theorem dX6_keep_18 : decode cX6_keep 18 = .ok (.aload_n 0, 1) := by decide +kernel
theorem dX6_keep_19 : decode cX6_keep 19 = .ok (.getfield 25, 3) := by decide +kernel
theorem dX6_keep_22 : decode cX6_keep 22 = .ok (.aload_n 0, 1) := by decide +kernel
theorem dX6_keep_23 : decode cX6_keep 23 = .ok (.getfield 18, 3) := by decide +kernel
theorem dX6_keep_26 : decode cX6_keep 26 = .ok (.isub, 1) := by decide +kernel
theorem dX6_keep_27 : decode cX6_keep 27 = .ok (.bipush 40, 2) := by decide +kernel
theorem dX6_keep_29 : decode cX6_keep 29 = .ok (.if_icmp .le 13, 3) := by decide +kernel
theorem dX6_keep_32 : decode cX6_keep 32 = .ok (.aload_n 0, 1) := by decide +kernel
theorem dX6_keep_33 : decode cX6_keep 33 = .ok (.dup, 1) := by decide +kernel
theorem dX6_keep_34 : decode cX6_keep 34 = .ok (.getfield 18, 3) := by decide +kernel
theorem dX6_keep_37 : decode cX6_keep 37 = .ok (.iconst 1, 1) := by decide +kernel
theorem dX6_keep_38 : decode cX6_keep 38 = .ok (.iadd, 1) := by decide +kernel
theorem dX6_keep_39 : decode cX6_keep 39 = .ok (.putfield 18, 3) := by decide +kernel
theorem dX6_keep_42 : decode cX6_keep 42 = .ok (.aload_n 0, 1) := by decide +kernel
theorem dX6_keep_43 : decode cX6_keep 43 = .ok (.aload_n 0, 1) := by decide +kernel
theorem dX6_keep_44 : decode cX6_keep 44 = .ok (.getfield 22, 3) := by decide +kernel
theorem dX6_keep_47 : decode cX6_keep 47 = .ok (.invokevirtual 32, 3) := by decide +kernel
theorem dX6_keep_50 : decode cX6_keep 50 = .ok (.aload_n 1, 1) := by decide +kernel
theorem dX6_keep_51 : decode cX6_keep 51 = .ok (.invokevirtual 28, 3) := by decide +kernel
theorem dX6_keep_54 : decode cX6_keep 54 = .ok (.return_, 1) := by decide +kernel
theorem dX6_undoable_0 : decode cX6_undoable 0 = .ok (.aload_n 0, 1) := by decide +kernel
theorem dX6_undoable_1 : decode cX6_undoable 1 = .ok (.getfield 22, 3) := by decide +kernel
theorem dX6_undoable_4 : decode cX6_undoable 4 = .ok (.aload_n 0, 1) := by decide +kernel
theorem dX6_undoable_5 : decode cX6_undoable 5 = .ok (.getfield 18, 3) := by decide +kernel
theorem dX6_undoable_8 : decode cX6_undoable 8 = .ok (.isub, 1) := by decide +kernel
theorem dX6_undoable_9 : decode cX6_undoable 9 = .ok (.ireturn, 1) := by decide +kernel
theorem dX6_redoable_0 : decode cX6_redoable 0 = .ok (.aload_n 0, 1) := by decide +kernel
theorem dX6_redoable_1 : decode cX6_redoable 1 = .ok (.getfield 25, 3) := by decide +kernel
theorem dX6_redoable_4 : decode cX6_redoable 4 = .ok (.aload_n 0, 1) := by decide +kernel
theorem dX6_redoable_5 : decode cX6_redoable 5 = .ok (.getfield 22, 3) := by decide +kernel
theorem dX6_redoable_8 : decode cX6_redoable 8 = .ok (.isub, 1) := by decide +kernel
theorem dX6_redoable_9 : decode cX6_redoable 9 = .ok (.ireturn, 1) := by decide +kernel
theorem dX6_stepBack_0 : decode cX6_stepBack 0 = .ok (.aload_n 0, 1) := by decide +kernel
theorem dX6_stepBack_1 : decode cX6_stepBack 1 = .ok (.dup, 1) := by decide +kernel
theorem dX6_stepBack_2 : decode cX6_stepBack 2 = .ok (.getfield 22, 3) := by decide +kernel
theorem dX6_stepBack_5 : decode cX6_stepBack 5 = .ok (.iconst 1, 1) := by decide +kernel
theorem dX6_stepBack_6 : decode cX6_stepBack 6 = .ok (.isub, 1) := by decide +kernel
theorem dX6_stepBack_7 : decode cX6_stepBack 7 = .ok (.putfield 22, 3) := by decide +kernel
theorem dX6_stepBack_10 : decode cX6_stepBack 10 = .ok (.aload_n 0, 1) := by decide +kernel
theorem dX6_stepBack_11 : decode cX6_stepBack 11 = .ok (.aload_n 0, 1) := by decide +kernel
theorem dX6_stepBack_12 : decode cX6_stepBack 12 = .ok (.getfield 22, 3) := by decide +kernel
theorem dX6_stepBack_15 : decode cX6_stepBack 15 = .ok (.invokevirtual 32, 3) := by decide +kernel
theorem dX6_stepBack_18 : decode cX6_stepBack 18 = .ok (.areturn, 1) := by decide +kernel
theorem dX6_stepOn_0 : decode cX6_stepOn 0 = .ok (.aload_n 0, 1) := by decide +kernel
theorem dX6_stepOn_1 : decode cX6_stepOn 1 = .ok (.dup, 1) := by decide +kernel
theorem dX6_stepOn_2 : decode cX6_stepOn 2 = .ok (.getfield 22, 3) := by decide +kernel
theorem dX6_stepOn_5 : decode cX6_stepOn 5 = .ok (.iconst 1, 1) := by decide +kernel
theorem dX6_stepOn_6 : decode cX6_stepOn 6 = .ok (.iadd, 1) := by decide +kernel
theorem dX6_stepOn_7 : decode cX6_stepOn 7 = .ok (.putfield 22, 3) := by decide +kernel
theorem dX6_stepOn_10 : decode cX6_stepOn 10 = .ok (.aload_n 0, 1) := by decide +kernel
theorem dX6_stepOn_11 : decode cX6_stepOn 11 = .ok (.aload_n 0, 1) := by decide +kernel
theorem dX6_stepOn_12 : decode cX6_stepOn 12 = .ok (.getfield 22, 3) := by decide +kernel
theorem dX6_stepOn_15 : decode cX6_stepOn 15 = .ok (.invokevirtual 32, 3) := by decide +kernel
theorem dX6_stepOn_18 : decode cX6_stepOn 18 = .ok (.areturn, 1) := by decide +kernel
theorem dX6_slot_0 : decode cX6_slot 0 = .ok (.aload_n 0, 1) := by decide +kernel
theorem dX6_slot_1 : decode cX6_slot 1 = .ok (.getfield 13, 3) := by decide +kernel
theorem dX6_slot_4 : decode cX6_slot 4 = .ok (.iload_n 1, 1) := by decide +kernel
theorem dX6_slot_5 : decode cX6_slot 5 = .ok (.bipush 41, 2) := by decide +kernel
theorem dX6_slot_7 : decode cX6_slot 7 = .ok (.invokestatic 36, 3) := by decide +kernel
theorem dX6_slot_10 : decode cX6_slot 10 = .ok (.aaload, 1) := by decide +kernel
theorem dX6_slot_11 : decode cX6_slot 11 = .ok (.areturn, 1) := by decide +kernel
theorem dX7_init_0 : decode cX7_init 0 = .ok (.aload_n 0, 1) := by decide +kernel
theorem dX7_init_1 : decode cX7_init 1 = .ok (.invokespecial 3, 3) := by decide +kernel
theorem dX7_init_4 : decode cX7_init 4 = .ok (.aload_n 0, 1) := by decide +kernel
theorem dX7_init_5 : decode cX7_init 5 = .ok (.new 9, 3) := by decide +kernel
theorem dX7_init_8 : decode cX7_init 8 = .ok (.dup, 1) := by decide +kernel
theorem dX7_init_9 : decode cX7_init 9 = .ok (.invokespecial 11, 3) := by decide +kernel
theorem dX7_init_12 : decode cX7_init 12 = .ok (.putfield 12, 3) := by decide +kernel
theorem dX7_init_15 : decode cX7_init 15 = .ok (.aload_n 0, 1) := by decide +kernel
theorem dX7_init_16 : decode cX7_init 16 = .ok (.new 18, 3) := by decide +kernel
theorem dX7_init_19 : decode cX7_init 19 = .ok (.dup, 1) := by decide +kernel
theorem dX7_init_20 : decode cX7_init 20 = .ok (.bipush 7, 2) := by decide +kernel
theorem dX7_init_22 : decode cX7_init 22 = .ok (.invokespecial 20, 3) := by decide +kernel
theorem dX7_init_25 : decode cX7_init 25 = .ok (.putfield 23, 3) := by decide +kernel
theorem dX7_init_28 : decode cX7_init 28 = .ok (.aload_n 0, 1) := by decide +kernel
theorem dX7_init_29 : decode cX7_init 29 = .ok (.new 18, 3) := by decide +kernel
theorem dX7_init_32 : decode cX7_init 32 = .ok (.dup, 1) := by decide +kernel
theorem dX7_init_33 : decode cX7_init 33 = .ok (.bipush 6, 2) := by decide +kernel
theorem dX7_init_35 : decode cX7_init 35 = .ok (.invokespecial 20, 3) := by decide +kernel
theorem dX7_init_38 : decode cX7_init 38 = .ok (.putfield 27, 3) := by decide +kernel
theorem dX7_init_41 : decode cX7_init 41 = .ok (.aload_n 0, 1) := by decide +kernel
theorem dX7_init_42 : decode cX7_init 42 = .ok (.new 18, 3) := by decide +kernel
theorem dX7_init_45 : decode cX7_init 45 = .ok (.dup, 1) := by decide +kernel
theorem dX7_init_46 : decode cX7_init 46 = .ok (.bipush 8, 2) := by decide +kernel
theorem dX7_init_48 : decode cX7_init 48 = .ok (.invokespecial 20, 3) := by decide +kernel
theorem dX7_init_51 : decode cX7_init 51 = .ok (.putfield 30, 3) := by decide +kernel
theorem dX7_init_54 : decode cX7_init 54 = .ok (.aload_n 0, 1) := by decide +kernel
theorem dX7_init_55 : decode cX7_init 55 = .ok (.iconst (-1), 1) := by decide +kernel
theorem dX7_init_56 : decode cX7_init 56 = .ok (.putfield 33, 3) := by decide +kernel
theorem dX7_init_59 : decode cX7_init 59 = .ok (.return_, 1) := by decide +kernel
theorem dX7_read_0 : decode cX7_read 0 = .ok (.aload_n 0, 1) := by decide +kernel
theorem dX7_read_1 : decode cX7_read 1 = .ok (.aload_n 1, 1) := by decide +kernel
theorem dX7_read_2 : decode cX7_read 2 = .ok (.putfield 37, 3) := by decide +kernel
theorem dX7_read_5 : decode cX7_read 5 = .ok (.aload_n 0, 1) := by decide +kernel
theorem dX7_read_6 : decode cX7_read 6 = .ok (.getfield 37, 3) := by decide +kernel
theorem dX7_read_9 : decode cX7_read 9 = .ok (.invokevirtual 41, 3) := by decide +kernel
theorem dX7_read_12 : decode cX7_read 12 = .ok (.aload_n 0, 1) := by decide +kernel
theorem dX7_read_13 : decode cX7_read 13 = .ok (.getfield 23, 3) := by decide +kernel
theorem dX7_read_16 : decode cX7_read 16 = .ok (.iconst 0, 1) := by decide +kernel
theorem dX7_read_17 : decode cX7_read 17 = .ok (.putfield 46, 3) := by decide +kernel
theorem dX7_read_20 : decode cX7_read 20 = .ok (.aload_n 0, 1) := by decide +kernel
theorem dX7_read_21 : decode cX7_read 21 = .ok (.getfield 27, 3) := by decide +kernel
theorem dX7_read_24 : decode cX7_read 24 = .ok (.iconst 0, 1) := by decide +kernel
theorem dX7_read_25 : decode cX7_read 25 = .ok (.putfield 46, 3) := by decide +kernel
theorem dX7_read_28 : decode cX7_read 28 = .ok (.aload_n 0, 1) := by decide +kernel
theorem dX7_read_29 : decode cX7_read 29 = .ok (.getfield 30, 3) := by decide +kernel
theorem dX7_read_32 : decode cX7_read 32 = .ok (.iconst 0, 1) := by decide +kernel
theorem dX7_read_33 : decode cX7_read 33 = .ok (.putfield 46, 3) := by decide +kernel
theorem dX7_read_36 : decode cX7_read 36 = .ok (.aload_n 0, 1) := by decide +kernel
theorem dX7_read_37 : decode cX7_read 37 = .ok (.iconst 0, 1) := by decide +kernel
theorem dX7_read_38 : decode cX7_read 38 = .ok (.putfield 49, 3) := by decide +kernel
theorem dX7_read_41 : decode cX7_read 41 = .ok (.aload_n 0, 1) := by decide +kernel
theorem dX7_read_42 : decode cX7_read 42 = .ok (.iconst 0, 1) := by decide +kernel
theorem dX7_read_43 : decode cX7_read 43 = .ok (.putfield 53, 3) := by decide +kernel
theorem dX7_read_46 : decode cX7_read 46 = .ok (.aload_n 0, 1) := by decide +kernel
theorem dX7_read_47 : decode cX7_read 47 = .ok (.iconst 0, 1) := by decide +kernel
theorem dX7_read_48 : decode cX7_read 48 = .ok (.putfield 56, 3) := by decide +kernel
theorem dX7_read_51 : decode cX7_read 51 = .ok (.aload_n 0, 1) := by decide +kernel
theorem dX7_read_52 : decode cX7_read 52 = .ok (.iconst 0, 1) := by decide +kernel
theorem dX7_read_53 : decode cX7_read 53 = .ok (.putfield 59, 3) := by decide +kernel
theorem dX7_read_56 : decode cX7_read 56 = .ok (.aload_n 0, 1) := by decide +kernel
theorem dX7_read_57 : decode cX7_read 57 = .ok (.iconst (-1), 1) := by decide +kernel
theorem dX7_read_58 : decode cX7_read 58 = .ok (.putfield 33, 3) := by decide +kernel
theorem dX7_read_61 : decode cX7_read 61 = .ok (.aload_n 0, 1) := by decide +kernel
theorem dX7_read_62 : decode cX7_read 62 = .ok (.getfield 12, 3) := by decide +kernel
theorem dX7_read_65 : decode cX7_read 65 = .ok (.invokevirtual 62, 3) := by decide +kernel
theorem dX7_read_68 : decode cX7_read 68 = .ok (.iconst 0, 1) := by decide +kernel
theorem dX7_read_69 : decode cX7_read 69 = .ok (.istore_n 2, 1) := by decide +kernel
theorem dX7_read_70 : decode cX7_read 70 = .ok (.iload_n 2, 1) := by decide +kernel
theorem dX7_read_71 : decode cX7_read 71 = .ok (.sipush 1600, 3) := by decide +kernel
theorem dX7_read_74 : decode cX7_read 74 = .ok (.if_icmp .gt 28, 3) := by decide +kernel
theorem dX7_read_77 : decode cX7_read 77 = .ok (.aload_n 0, 1) := by decide +kernel
theorem dX7_read_78 : decode cX7_read 78 = .ok (.getfield 59, 3) := by decide +kernel
theorem dX7_read_81 : decode cX7_read 81 = .ok (.ifCond .ne 21, 3) := by decide +kernel
theorem dX7_read_84 : decode cX7_read 84 = .ok (.aload_n 0, 1) := by decide +kernel
theorem dX7_read_85 : decode cX7_read 85 = .ok (.iconst 0, 1) := by decide +kernel
theorem dX7_read_86 : decode cX7_read 86 = .ok (.invokevirtual 65, 3) := by decide +kernel
theorem dX7_read_89 : decode cX7_read 89 = .ok (.ifCond .ne 13, 3) := by decide +kernel
theorem dX7_read_92 : decode cX7_read 92 = .ok (.aload_n 0, 1) := by decide +kernel
theorem dX7_read_93 : decode cX7_read 93 = .ok (.invokevirtual 69, 3) := by decide +kernel
theorem dX7_read_96 : decode cX7_read 96 = .ok (.iinc 2 1, 3) := by decide +kernel
theorem dX7_read_99 : decode cX7_read 99 = .ok (.goto (-29), 3) := by decide +kernel
theorem dX7_read_102 : decode cX7_read 102 = .ok (.aload_n 0, 1) := by decide +kernel
theorem dX7_read_103 : decode cX7_read 103 = .ok (.getfield 59, 3) := by decide +kernel
theorem dX7_read_106 : decode cX7_read 106 = .ok (.ifCond .ne 7, 3) := by decide +kernel
theorem dX7_read_109 : decode cX7_read 109 = .ok (.iconst 1, 1) := by decide +kernel
theorem dX7_read_110 : decode cX7_read 110 = .ok (.goto 4, 3) := by decide +kernel
theorem dX7_read_113 : decode cX7_read 113 = .ok (.iconst 0, 1) := by decide +kernel
theorem dX7_read_114 : decode cX7_read 114 = .ok (.ireturn, 1) := by decide +kernel
theorem dX7_readLine_0 : decode cX7_readLine 0 = .ok (.aload_n 0, 1) := by decide +kernel
theorem dX7_readLine_1 : decode cX7_readLine 1 = .ok (.getfield 12, 3) := by decide +kernel
theorem dX7_readLine_4 : decode cX7_readLine 4 = .ok (.aload_n 0, 1) := by decide +kernel
theorem dX7_readLine_5 : decode cX7_readLine 5 = .ok (.getfield 56, 3) := by decide +kernel
theorem dX7_readLine_8 : decode cX7_readLine 8 = .ok (.invokevirtual 72, 3) := by decide +kernel
theorem dX7_readLine_11 : decode cX7_readLine 11 = .ok (.istore_n 1, 1) := by decide +kernel
theorem dX7_readLine_12 : decode cX7_readLine 12 = .ok (.aload_n 0, 1) := by decide +kernel
theorem dX7_readLine_13 : decode cX7_readLine 13 = .ok (.iload_n 1, 1) := by decide +kernel
theorem dX7_readLine_14 : decode cX7_readLine 14 = .ok (.invokevirtual 76, 3) := by decide +kernel
theorem dX7_readLine_17 : decode cX7_readLine 17 = .ok (.ifCond .ne 9, 3) := by decide +kernel
theorem dX7_readLine_20 : decode cX7_readLine 20 = .ok (.aload_n 0, 1) := by decide +kernel
theorem dX7_readLine_21 : decode cX7_readLine 21 = .ok (.iconst 2, 1) := by decide +kernel
theorem dX7_readLine_22 : decode cX7_readLine 22 = .ok (.invokevirtual 79, 3) := by decide +kernel
theorem dX7_readLine_25 : decode cX7_readLine 25 = .ok (.return_, 1) := by decide +kernel
theorem dX7_readLine_26 : decode cX7_readLine 26 = .ok (.aload_n 0, 1) := by decide +kernel
theorem dX7_readLine_27 : decode cX7_readLine 27 = .ok (.dup, 1) := by decide +kernel
theorem dX7_readLine_28 : decode cX7_readLine 28 = .ok (.getfield 56, 3) := by decide +kernel
theorem dX7_readLine_31 : decode cX7_readLine 31 = .ok (.iconst 1, 1) := by decide +kernel
theorem dX7_readLine_32 : decode cX7_readLine 32 = .ok (.iadd, 1) := by decide +kernel
theorem dX7_readLine_33 : decode cX7_readLine 33 = .ok (.putfield 56, 3) := by decide +kernel
theorem dX7_readLine_36 : decode cX7_readLine 36 = .ok (.iload_n 1, 1) := by decide +kernel
theorem dX7_readLine_37 : decode cX7_readLine 37 = .ok (.tableswitch 95 15 19 #[35, 60, 67, 74, 81], 35) := by decide +kernel
theorem dX7_readLine_72 : decode cX7_readLine 72 = .ok (.aload_n 0, 1) := by decide +kernel
theorem dX7_readLine_73 : decode cX7_readLine 73 = .ok (.aload_n 0, 1) := by decide +kernel
theorem dX7_readLine_74 : decode cX7_readLine 74 = .ok (.getfield 23, 3) := by decide +kernel
theorem dX7_readLine_77 : decode cX7_readLine 77 = .ok (.invokevirtual 82, 3) := by decide +kernel
theorem dX7_readLine_80 : decode cX7_readLine 80 = .ok (.aload_n 0, 1) := by decide +kernel
theorem dX7_readLine_81 : decode cX7_readLine 81 = .ok (.getfield 37, 3) := by decide +kernel
theorem dX7_readLine_84 : decode cX7_readLine 84 = .ok (.aload_n 0, 1) := by decide +kernel
theorem dX7_readLine_85 : decode cX7_readLine 85 = .ok (.getfield 23, 3) := by decide +kernel
theorem dX7_readLine_88 : decode cX7_readLine 88 = .ok (.getfield 46, 3) := by decide +kernel
theorem dX7_readLine_91 : decode cX7_readLine 91 = .ok (.putfield 86, 3) := by decide +kernel
theorem dX7_readLine_94 : decode cX7_readLine 94 = .ok (.goto 42, 3) := by decide +kernel
theorem dX7_readLine_97 : decode cX7_readLine 97 = .ok (.aload_n 0, 1) := by decide +kernel
theorem dX7_readLine_98 : decode cX7_readLine 98 = .ok (.invokevirtual 89, 3) := by decide +kernel
theorem dX7_readLine_101 : decode cX7_readLine 101 = .ok (.goto 35, 3) := by decide +kernel
theorem dX7_readLine_104 : decode cX7_readLine 104 = .ok (.aload_n 0, 1) := by decide +kernel
theorem dX7_readLine_105 : decode cX7_readLine 105 = .ok (.invokevirtual 92, 3) := by decide +kernel
theorem dX7_readLine_108 : decode cX7_readLine 108 = .ok (.goto 28, 3) := by decide +kernel
theorem dX7_readLine_111 : decode cX7_readLine 111 = .ok (.aload_n 0, 1) := by decide +kernel
theorem dX7_readLine_112 : decode cX7_readLine 112 = .ok (.invokevirtual 95, 3) := by decide +kernel
theorem dX7_readLine_115 : decode cX7_readLine 115 = .ok (.goto 21, 3) := by decide +kernel
theorem dX7_readLine_118 : decode cX7_readLine 118 = .ok (.aload_n 0, 1) := by decide +kernel
theorem dX7_readLine_119 : decode cX7_readLine 119 = .ok (.iconst 1, 1) := by decide +kernel
theorem dX7_readLine_120 : decode cX7_readLine 120 = .ok (.putfield 49, 3) := by decide +kernel
theorem dX7_readLine_123 : decode cX7_readLine 123 = .ok (.aload_n 0, 1) := by decide +kernel
theorem dX7_readLine_124 : decode cX7_readLine 124 = .ok (.iconst 0, 1) := by decide +kernel
theorem dX7_readLine_125 : decode cX7_readLine 125 = .ok (.iconst 0, 1) := by decide +kernel
theorem dX7_readLine_126 : decode cX7_readLine 126 = .ok (.invokevirtual 98, 3) := by decide +kernel
theorem dX7_readLine_129 : decode cX7_readLine 129 = .ok (.goto 7, 3) := by decide +kernel
theorem dX7_readLine_132 : decode cX7_readLine 132 = .ok (.aload_n 0, 1) := by decide +kernel
theorem dX7_readLine_133 : decode cX7_readLine 133 = .ok (.invokevirtual 102, 3) := by decide +kernel
theorem dX7_readLine_136 : decode cX7_readLine 136 = .ok (.aload_n 0, 1) := by decide +kernel
theorem dX7_readLine_137 : decode cX7_readLine 137 = .ok (.iconst 4, 1) := by decide +kernel
theorem dX7_readLine_138 : decode cX7_readLine 138 = .ok (.invokevirtual 105, 3) := by decide +kernel
theorem dX7_readLine_141 : decode cX7_readLine 141 = .ok (.return_, 1) := by decide +kernel
theorem dX7_mayBegin_0 : decode cX7_mayBegin 0 = .ok (.iload_n 1, 1) := by decide +kernel
theorem dX7_mayBegin_1 : decode cX7_mayBegin 1 = .ok (.tableswitch 131 15 20 #[39, 55, 73, 89, 105, 118], 39) := by decide +kernel
theorem dX7_mayBegin_40 : decode cX7_mayBegin 40 = .ok (.aload_n 0, 1) := by decide +kernel
theorem dX7_mayBegin_41 : decode cX7_mayBegin 41 = .ok (.getfield 23, 3) := by decide +kernel
theorem dX7_mayBegin_44 : decode cX7_mayBegin 44 = .ok (.invokevirtual 108, 3) := by decide +kernel
theorem dX7_mayBegin_47 : decode cX7_mayBegin 47 = .ok (.ifCond .ne 7, 3) := by decide +kernel
theorem dX7_mayBegin_50 : decode cX7_mayBegin 50 = .ok (.iconst 1, 1) := by decide +kernel
theorem dX7_mayBegin_51 : decode cX7_mayBegin 51 = .ok (.goto 4, 3) := by decide +kernel
theorem dX7_mayBegin_54 : decode cX7_mayBegin 54 = .ok (.iconst 0, 1) := by decide +kernel
theorem dX7_mayBegin_55 : decode cX7_mayBegin 55 = .ok (.ireturn, 1) := by decide +kernel
theorem dX7_mayBegin_56 : decode cX7_mayBegin 56 = .ok (.aload_n 0, 1) := by decide +kernel
theorem dX7_mayBegin_57 : decode cX7_mayBegin 57 = .ok (.getfield 37, 3) := by decide +kernel
theorem dX7_mayBegin_60 : decode cX7_mayBegin 60 = .ok (.getfield 112, 3) := by decide +kernel
theorem dX7_mayBegin_63 : decode cX7_mayBegin 63 = .ok (.bipush 12, 2) := by decide +kernel
theorem dX7_mayBegin_65 : decode cX7_mayBegin 65 = .ok (.if_icmp .ge 7, 3) := by decide +kernel
theorem dX7_mayBegin_68 : decode cX7_mayBegin 68 = .ok (.iconst 1, 1) := by decide +kernel
theorem dX7_mayBegin_69 : decode cX7_mayBegin 69 = .ok (.goto 4, 3) := by decide +kernel
theorem dX7_mayBegin_72 : decode cX7_mayBegin 72 = .ok (.iconst 0, 1) := by decide +kernel
theorem dX7_mayBegin_73 : decode cX7_mayBegin 73 = .ok (.ireturn, 1) := by decide +kernel
theorem dX7_mayBegin_74 : decode cX7_mayBegin 74 = .ok (.aload_n 0, 1) := by decide +kernel
theorem dX7_mayBegin_75 : decode cX7_mayBegin 75 = .ok (.getfield 27, 3) := by decide +kernel
theorem dX7_mayBegin_78 : decode cX7_mayBegin 78 = .ok (.invokevirtual 108, 3) := by decide +kernel
theorem dX7_mayBegin_81 : decode cX7_mayBegin 81 = .ok (.ifCond .ne 7, 3) := by decide +kernel
theorem dX7_mayBegin_84 : decode cX7_mayBegin 84 = .ok (.iconst 1, 1) := by decide +kernel
theorem dX7_mayBegin_85 : decode cX7_mayBegin 85 = .ok (.goto 4, 3) := by decide +kernel
theorem dX7_mayBegin_88 : decode cX7_mayBegin 88 = .ok (.iconst 0, 1) := by decide +kernel
theorem dX7_mayBegin_89 : decode cX7_mayBegin 89 = .ok (.ireturn, 1) := by decide +kernel
theorem dX7_mayBegin_90 : decode cX7_mayBegin 90 = .ok (.aload_n 0, 1) := by decide +kernel
theorem dX7_mayBegin_91 : decode cX7_mayBegin 91 = .ok (.getfield 30, 3) := by decide +kernel
theorem dX7_mayBegin_94 : decode cX7_mayBegin 94 = .ok (.invokevirtual 108, 3) := by decide +kernel
theorem dX7_mayBegin_97 : decode cX7_mayBegin 97 = .ok (.ifCond .ne 7, 3) := by decide +kernel
theorem dX7_mayBegin_100 : decode cX7_mayBegin 100 = .ok (.iconst 1, 1) := by decide +kernel
theorem dX7_mayBegin_101 : decode cX7_mayBegin 101 = .ok (.goto 4, 3) := by decide +kernel
theorem dX7_mayBegin_104 : decode cX7_mayBegin 104 = .ok (.iconst 0, 1) := by decide +kernel
theorem dX7_mayBegin_105 : decode cX7_mayBegin 105 = .ok (.ireturn, 1) := by decide +kernel
theorem dX7_mayBegin_106 : decode cX7_mayBegin 106 = .ok (.aload_n 0, 1) := by decide +kernel
theorem dX7_mayBegin_107 : decode cX7_mayBegin 107 = .ok (.getfield 49, 3) := by decide +kernel
theorem dX7_mayBegin_110 : decode cX7_mayBegin 110 = .ok (.ifCond .ne 7, 3) := by decide +kernel
theorem dX7_mayBegin_113 : decode cX7_mayBegin 113 = .ok (.iconst 1, 1) := by decide +kernel
theorem dX7_mayBegin_114 : decode cX7_mayBegin 114 = .ok (.goto 4, 3) := by decide +kernel
theorem dX7_mayBegin_117 : decode cX7_mayBegin 117 = .ok (.iconst 0, 1) := by decide +kernel
theorem dX7_mayBegin_118 : decode cX7_mayBegin 118 = .ok (.ireturn, 1) := by decide +kernel
theorem dX7_mayBegin_119 : decode cX7_mayBegin 119 = .ok (.aload_n 0, 1) := by decide +kernel
theorem dX7_mayBegin_120 : decode cX7_mayBegin 120 = .ok (.getfield 53, 3) := by decide +kernel
theorem dX7_mayBegin_123 : decode cX7_mayBegin 123 = .ok (.ifCond .ne 7, 3) := by decide +kernel
theorem dX7_mayBegin_126 : decode cX7_mayBegin 126 = .ok (.iconst 1, 1) := by decide +kernel
theorem dX7_mayBegin_127 : decode cX7_mayBegin 127 = .ok (.goto 4, 3) := by decide +kernel
theorem dX7_mayBegin_130 : decode cX7_mayBegin 130 = .ok (.iconst 0, 1) := by decide +kernel
theorem dX7_mayBegin_131 : decode cX7_mayBegin 131 = .ok (.ireturn, 1) := by decide +kernel
theorem dX7_mayBegin_132 : decode cX7_mayBegin 132 = .ok (.iconst 0, 1) := by decide +kernel
theorem dX7_mayBegin_133 : decode cX7_mayBegin 133 = .ok (.ireturn, 1) := by decide +kernel
theorem dX7_readWay_0 : decode cX7_readWay 0 = .ok (.aload_n 0, 1) := by decide +kernel
theorem dX7_readWay_1 : decode cX7_readWay 1 = .ok (.iconst (-1), 1) := by decide +kernel
theorem dX7_readWay_2 : decode cX7_readWay 2 = .ok (.invokevirtual 115, 3) := by decide +kernel
theorem dX7_readWay_5 : decode cX7_readWay 5 = .ok (.istore_n 1, 1) := by decide +kernel
theorem dX7_readWay_6 : decode cX7_readWay 6 = .ok (.aload_n 0, 1) := by decide +kernel
theorem dX7_readWay_7 : decode cX7_readWay 7 = .ok (.getfield 56, 3) := by decide +kernel
theorem dX7_readWay_10 : decode cX7_readWay 10 = .ok (.istore_n 2, 1) := by decide +kernel
theorem dX7_readWay_11 : decode cX7_readWay 11 = .ok (.aload_n 0, 1) := by decide +kernel
theorem dX7_readWay_12 : decode cX7_readWay 12 = .ok (.iload_n 1, 1) := by decide +kernel
theorem dX7_readWay_13 : decode cX7_readWay 13 = .ok (.invokevirtual 115, 3) := by decide +kernel
theorem dX7_readWay_16 : decode cX7_readWay 16 = .ok (.istore_n 3, 1) := by decide +kernel
theorem dX7_readWay_17 : decode cX7_readWay 17 = .ok (.aload_n 0, 1) := by decide +kernel
theorem dX7_readWay_18 : decode cX7_readWay 18 = .ok (.getfield 59, 3) := by decide +kernel
theorem dX7_readWay_21 : decode cX7_readWay 21 = .ok (.ifCond .ne 25, 3) := by decide +kernel
theorem dX7_readWay_24 : decode cX7_readWay 24 = .ok (.aload_n 0, 1) := by decide +kernel
theorem dX7_readWay_25 : decode cX7_readWay 25 = .ok (.getfield 37, 3) := by decide +kernel
theorem dX7_readWay_28 : decode cX7_readWay 28 = .ok (.iload_n 1, 1) := by decide +kernel
theorem dX7_readWay_29 : decode cX7_readWay 29 = .ok (.iload_n 3, 1) := by decide +kernel
theorem dX7_readWay_30 : decode cX7_readWay 30 = .ok (.invokevirtual 118, 3) := by decide +kernel
theorem dX7_readWay_33 : decode cX7_readWay 33 = .ok (.ifCond .eq 13, 3) := by decide +kernel
theorem dX7_readWay_36 : decode cX7_readWay 36 = .ok (.aload_n 0, 1) := by decide +kernel
theorem dX7_readWay_37 : decode cX7_readWay 37 = .ok (.iload_n 2, 1) := by decide +kernel
theorem dX7_readWay_38 : decode cX7_readWay 38 = .ok (.putfield 56, 3) := by decide +kernel
theorem dX7_readWay_41 : decode cX7_readWay 41 = .ok (.aload_n 0, 1) := by decide +kernel
theorem dX7_readWay_42 : decode cX7_readWay 42 = .ok (.iconst 3, 1) := by decide +kernel
theorem dX7_readWay_43 : decode cX7_readWay 43 = .ok (.invokevirtual 79, 3) := by decide +kernel
theorem dX7_readWay_46 : decode cX7_readWay 46 = .ok (.aload_n 0, 1) := by decide +kernel
theorem dX7_readWay_47 : decode cX7_readWay 47 = .ok (.iconst 1, 1) := by decide +kernel
theorem dX7_readWay_48 : decode cX7_readWay 48 = .ok (.bipush 9, 2) := by decide +kernel
theorem dX7_readWay_50 : decode cX7_readWay 50 = .ok (.invokevirtual 122, 3) := by decide +kernel
theorem dX7_readWay_53 : decode cX7_readWay 53 = .ok (.istore 4, 2) := by decide +kernel
theorem dX7_readWay_55 : decode cX7_readWay 55 = .ok (.aload_n 0, 1) := by decide +kernel
theorem dX7_readWay_56 : decode cX7_readWay 56 = .ok (.getfield 59, 3) := by decide +kernel
theorem dX7_readWay_59 : decode cX7_readWay 59 = .ok (.ifCond .ne 14, 3) := by decide +kernel
theorem dX7_readWay_62 : decode cX7_readWay 62 = .ok (.aload_n 0, 1) := by decide +kernel
theorem dX7_readWay_63 : decode cX7_readWay 63 = .ok (.getfield 37, 3) := by decide +kernel
theorem dX7_readWay_66 : decode cX7_readWay 66 = .ok (.iload_n 1, 1) := by decide +kernel
theorem dX7_readWay_67 : decode cX7_readWay 67 = .ok (.iload_n 3, 1) := by decide +kernel
theorem dX7_readWay_68 : decode cX7_readWay 68 = .ok (.iload 4, 2) := by decide +kernel
theorem dX7_readWay_70 : decode cX7_readWay 70 = .ok (.invokevirtual 126, 3) := by decide +kernel
theorem dX7_readWay_73 : decode cX7_readWay 73 = .ok (.return_, 1) := by decide +kernel
theorem dX7_readBier_0 : decode cX7_readBier 0 = .ok (.aload_n 0, 1) := by decide +kernel
theorem dX7_readBier_1 : decode cX7_readBier 1 = .ok (.aload_n 0, 1) := by decide +kernel
theorem dX7_readBier_2 : decode cX7_readBier 2 = .ok (.getfield 27, 3) := by decide +kernel
theorem dX7_readBier_5 : decode cX7_readBier 5 = .ok (.invokevirtual 82, 3) := by decide +kernel
theorem dX7_readBier_8 : decode cX7_readBier 8 = .ok (.aload_n 0, 1) := by decide +kernel
theorem dX7_readBier_9 : decode cX7_readBier 9 = .ok (.bipush 21, 2) := by decide +kernel
theorem dX7_readBier_11 : decode cX7_readBier 11 = .ok (.invokevirtual 105, 3) := by decide +kernel
theorem dX7_readBier_14 : decode cX7_readBier 14 = .ok (.aload_n 0, 1) := by decide +kernel
theorem dX7_readBier_15 : decode cX7_readBier 15 = .ok (.iconst (-1), 1) := by decide +kernel
theorem dX7_readBier_16 : decode cX7_readBier 16 = .ok (.invokevirtual 115, 3) := by decide +kernel
theorem dX7_readBier_19 : decode cX7_readBier 19 = .ok (.istore_n 1, 1) := by decide +kernel
theorem dX7_readBier_20 : decode cX7_readBier 20 = .ok (.aload_n 0, 1) := by decide +kernel
theorem dX7_readBier_21 : decode cX7_readBier 21 = .ok (.bipush 22, 2) := by decide +kernel
theorem dX7_readBier_23 : decode cX7_readBier 23 = .ok (.invokevirtual 105, 3) := by decide +kernel
theorem dX7_readBier_26 : decode cX7_readBier 26 = .ok (.aload_n 0, 1) := by decide +kernel
theorem dX7_readBier_27 : decode cX7_readBier 27 = .ok (.iload_n 1, 1) := by decide +kernel
theorem dX7_readBier_28 : decode cX7_readBier 28 = .ok (.invokevirtual 115, 3) := by decide +kernel
theorem dX7_readBier_31 : decode cX7_readBier 31 = .ok (.istore_n 2, 1) := by decide +kernel
theorem dX7_readBier_32 : decode cX7_readBier 32 = .ok (.aload_n 0, 1) := by decide +kernel
theorem dX7_readBier_33 : decode cX7_readBier 33 = .ok (.bipush 23, 2) := by decide +kernel
theorem dX7_readBier_35 : decode cX7_readBier 35 = .ok (.invokevirtual 105, 3) := by decide +kernel
theorem dX7_readBier_38 : decode cX7_readBier 38 = .ok (.aload_n 0, 1) := by decide +kernel
theorem dX7_readBier_39 : decode cX7_readBier 39 = .ok (.iconst 0, 1) := by decide +kernel
theorem dX7_readBier_40 : decode cX7_readBier 40 = .ok (.bipush 60, 2) := by decide +kernel
theorem dX7_readBier_42 : decode cX7_readBier 42 = .ok (.invokevirtual 122, 3) := by decide +kernel
theorem dX7_readBier_45 : decode cX7_readBier 45 = .ok (.istore_n 3, 1) := by decide +kernel
theorem dX7_readBier_46 : decode cX7_readBier 46 = .ok (.iconst 2, 1) := by decide +kernel
theorem dX7_readBier_47 : decode cX7_readBier 47 = .ok (.istore 4, 2) := by decide +kernel
theorem dX7_readBier_49 : decode cX7_readBier 49 = .ok (.aload_n 0, 1) := by decide +kernel
theorem dX7_readBier_50 : decode cX7_readBier 50 = .ok (.bipush 24, 2) := by decide +kernel
theorem dX7_readBier_52 : decode cX7_readBier 52 = .ok (.invokevirtual 65, 3) := by decide +kernel
theorem dX7_readBier_55 : decode cX7_readBier 55 = .ok (.ifCond .eq 22, 3) := by decide +kernel
theorem dX7_readBier_58 : decode cX7_readBier 58 = .ok (.aload_n 0, 1) := by decide +kernel
theorem dX7_readBier_59 : decode cX7_readBier 59 = .ok (.dup, 1) := by decide +kernel
theorem dX7_readBier_60 : decode cX7_readBier 60 = .ok (.getfield 56, 3) := by decide +kernel
theorem dX7_readBier_63 : decode cX7_readBier 63 = .ok (.iconst 1, 1) := by decide +kernel
theorem dX7_readBier_64 : decode cX7_readBier 64 = .ok (.iadd, 1) := by decide +kernel
theorem dX7_readBier_65 : decode cX7_readBier 65 = .ok (.putfield 56, 3) := by decide +kernel
theorem dX7_readBier_68 : decode cX7_readBier 68 = .ok (.aload_n 0, 1) := by decide +kernel
theorem dX7_readBier_69 : decode cX7_readBier 69 = .ok (.iconst 1, 1) := by decide +kernel
theorem dX7_readBier_70 : decode cX7_readBier 70 = .ok (.bipush 9, 2) := by decide +kernel
theorem dX7_readBier_72 : decode cX7_readBier 72 = .ok (.invokevirtual 122, 3) := by decide +kernel
theorem dX7_readBier_75 : decode cX7_readBier 75 = .ok (.istore 4, 2) := by decide +kernel
theorem dX7_readBier_77 : decode cX7_readBier 77 = .ok (.aload_n 0, 1) := by decide +kernel
theorem dX7_readBier_78 : decode cX7_readBier 78 = .ok (.getfield 59, 3) := by decide +kernel
theorem dX7_readBier_81 : decode cX7_readBier 81 = .ok (.ifCond .ne 15, 3) := by decide +kernel
theorem dX7_readBier_84 : decode cX7_readBier 84 = .ok (.aload_n 0, 1) := by decide +kernel
theorem dX7_readBier_85 : decode cX7_readBier 85 = .ok (.getfield 37, 3) := by decide +kernel
theorem dX7_readBier_88 : decode cX7_readBier 88 = .ok (.iload_n 1, 1) := by decide +kernel
theorem dX7_readBier_89 : decode cX7_readBier 89 = .ok (.iload_n 2, 1) := by decide +kernel
theorem dX7_readBier_90 : decode cX7_readBier 90 = .ok (.iload_n 3, 1) := by decide +kernel
theorem dX7_readBier_91 : decode cX7_readBier 91 = .ok (.iload 4, 2) := by decide +kernel
theorem dX7_readBier_93 : decode cX7_readBier 93 = .ok (.invokevirtual 130, 3) := by decide +kernel
theorem dX7_readBier_96 : decode cX7_readBier 96 = .ok (.return_, 1) := by decide +kernel
theorem dX7_readLetter_0 : decode cX7_readLetter 0 = .ok (.aload_n 0, 1) := by decide +kernel
theorem dX7_readLetter_1 : decode cX7_readLetter 1 = .ok (.aload_n 0, 1) := by decide +kernel
theorem dX7_readLetter_2 : decode cX7_readLetter 2 = .ok (.getfield 30, 3) := by decide +kernel
theorem dX7_readLetter_5 : decode cX7_readLetter 5 = .ok (.invokevirtual 82, 3) := by decide +kernel
theorem dX7_readLetter_8 : decode cX7_readLetter 8 = .ok (.aload_n 0, 1) := by decide +kernel
theorem dX7_readLetter_9 : decode cX7_readLetter 9 = .ok (.bipush 25, 2) := by decide +kernel
theorem dX7_readLetter_11 : decode cX7_readLetter 11 = .ok (.invokevirtual 105, 3) := by decide +kernel
theorem dX7_readLetter_14 : decode cX7_readLetter 14 = .ok (.aload_n 0, 1) := by decide +kernel
theorem dX7_readLetter_15 : decode cX7_readLetter 15 = .ok (.iconst (-1), 1) := by decide +kernel
theorem dX7_readLetter_16 : decode cX7_readLetter 16 = .ok (.invokevirtual 115, 3) := by decide +kernel
theorem dX7_readLetter_19 : decode cX7_readLetter 19 = .ok (.istore_n 1, 1) := by decide +kernel
theorem dX7_readLetter_20 : decode cX7_readLetter 20 = .ok (.aload_n 0, 1) := by decide +kernel
theorem dX7_readLetter_21 : decode cX7_readLetter 21 = .ok (.bipush 22, 2) := by decide +kernel
theorem dX7_readLetter_23 : decode cX7_readLetter 23 = .ok (.invokevirtual 105, 3) := by decide +kernel
theorem dX7_readLetter_26 : decode cX7_readLetter 26 = .ok (.aload_n 0, 1) := by decide +kernel
theorem dX7_readLetter_27 : decode cX7_readLetter 27 = .ok (.iload_n 1, 1) := by decide +kernel
theorem dX7_readLetter_28 : decode cX7_readLetter 28 = .ok (.invokevirtual 115, 3) := by decide +kernel
theorem dX7_readLetter_31 : decode cX7_readLetter 31 = .ok (.istore_n 2, 1) := by decide +kernel
theorem dX7_readLetter_32 : decode cX7_readLetter 32 = .ok (.sipush 200, 3) := by decide +kernel
theorem dX7_readLetter_35 : decode cX7_readLetter 35 = .ok (.istore_n 3, 1) := by decide +kernel
theorem dX7_readLetter_36 : decode cX7_readLetter 36 = .ok (.aload_n 0, 1) := by decide +kernel
theorem dX7_readLetter_37 : decode cX7_readLetter 37 = .ok (.bipush 26, 2) := by decide +kernel
theorem dX7_readLetter_39 : decode cX7_readLetter 39 = .ok (.invokevirtual 65, 3) := by decide +kernel
theorem dX7_readLetter_42 : decode cX7_readLetter 42 = .ok (.ifCond .eq 22, 3) := by decide +kernel
theorem dX7_readLetter_45 : decode cX7_readLetter 45 = .ok (.aload_n 0, 1) := by decide +kernel
theorem dX7_readLetter_46 : decode cX7_readLetter 46 = .ok (.dup, 1) := by decide +kernel
theorem dX7_readLetter_47 : decode cX7_readLetter 47 = .ok (.getfield 56, 3) := by decide +kernel
theorem dX7_readLetter_50 : decode cX7_readLetter 50 = .ok (.iconst 1, 1) := by decide +kernel
theorem dX7_readLetter_51 : decode cX7_readLetter 51 = .ok (.iadd, 1) := by decide +kernel
theorem dX7_readLetter_52 : decode cX7_readLetter 52 = .ok (.putfield 56, 3) := by decide +kernel
theorem dX7_readLetter_55 : decode cX7_readLetter 55 = .ok (.aload_n 0, 1) := by decide +kernel
theorem dX7_readLetter_56 : decode cX7_readLetter 56 = .ok (.iconst 0, 1) := by decide +kernel
theorem dX7_readLetter_57 : decode cX7_readLetter 57 = .ok (.sipush 200, 3) := by decide +kernel
theorem dX7_readLetter_60 : decode cX7_readLetter 60 = .ok (.invokevirtual 122, 3) := by decide +kernel
theorem dX7_readLetter_63 : decode cX7_readLetter 63 = .ok (.istore_n 3, 1) := by decide +kernel
theorem dX7_readLetter_64 : decode cX7_readLetter 64 = .ok (.iconst 1, 1) := by decide +kernel
theorem dX7_readLetter_65 : decode cX7_readLetter 65 = .ok (.istore 4, 2) := by decide +kernel
theorem dX7_readLetter_67 : decode cX7_readLetter 67 = .ok (.aload_n 0, 1) := by decide +kernel
theorem dX7_readLetter_68 : decode cX7_readLetter 68 = .ok (.bipush 27, 2) := by decide +kernel
theorem dX7_readLetter_70 : decode cX7_readLetter 70 = .ok (.invokevirtual 65, 3) := by decide +kernel
theorem dX7_readLetter_73 : decode cX7_readLetter 73 = .ok (.ifCond .eq 22, 3) := by decide +kernel
theorem dX7_readLetter_76 : decode cX7_readLetter 76 = .ok (.aload_n 0, 1) := by decide +kernel
theorem dX7_readLetter_77 : decode cX7_readLetter 77 = .ok (.dup, 1) := by decide +kernel
theorem dX7_readLetter_78 : decode cX7_readLetter 78 = .ok (.getfield 56, 3) := by decide +kernel
theorem dX7_readLetter_81 : decode cX7_readLetter 81 = .ok (.iconst 1, 1) := by decide +kernel
theorem dX7_readLetter_82 : decode cX7_readLetter 82 = .ok (.iadd, 1) := by decide +kernel
theorem dX7_readLetter_83 : decode cX7_readLetter 83 = .ok (.putfield 56, 3) := by decide +kernel
theorem dX7_readLetter_86 : decode cX7_readLetter 86 = .ok (.aload_n 0, 1) := by decide +kernel
theorem dX7_readLetter_87 : decode cX7_readLetter 87 = .ok (.iconst 1, 1) := by decide +kernel
theorem dX7_readLetter_88 : decode cX7_readLetter 88 = .ok (.bipush 9, 2) := by decide +kernel
theorem dX7_readLetter_90 : decode cX7_readLetter 90 = .ok (.invokevirtual 122, 3) := by decide +kernel
theorem dX7_readLetter_93 : decode cX7_readLetter 93 = .ok (.istore 4, 2) := by decide +kernel
theorem dX7_readLetter_95 : decode cX7_readLetter 95 = .ok (.aload_n 0, 1) := by decide +kernel
theorem dX7_readLetter_96 : decode cX7_readLetter 96 = .ok (.getfield 59, 3) := by decide +kernel
theorem dX7_readLetter_99 : decode cX7_readLetter 99 = .ok (.ifCond .ne 15, 3) := by decide +kernel
theorem dX7_readLetter_102 : decode cX7_readLetter 102 = .ok (.aload_n 0, 1) := by decide +kernel
theorem dX7_readLetter_103 : decode cX7_readLetter 103 = .ok (.getfield 37, 3) := by decide +kernel
theorem dX7_readLetter_106 : decode cX7_readLetter 106 = .ok (.iload_n 1, 1) := by decide +kernel
theorem dX7_readLetter_107 : decode cX7_readLetter 107 = .ok (.iload_n 2, 1) := by decide +kernel
theorem dX7_readLetter_108 : decode cX7_readLetter 108 = .ok (.iload_n 3, 1) := by decide +kernel
theorem dX7_readLetter_109 : decode cX7_readLetter 109 = .ok (.iload 4, 2) := by decide +kernel
theorem dX7_readLetter_111 : decode cX7_readLetter 111 = .ok (.invokevirtual 134, 3) := by decide +kernel
theorem dX7_readLetter_114 : decode cX7_readLetter 114 = .ok (.return_, 1) := by decide +kernel
theorem dX7_readWinter_0 : decode cX7_readWinter 0 = .ok (.aload_n 0, 1) := by decide +kernel
theorem dX7_readWinter_1 : decode cX7_readWinter 1 = .ok (.iconst 1, 1) := by decide +kernel
theorem dX7_readWinter_2 : decode cX7_readWinter 2 = .ok (.putfield 53, 3) := by decide +kernel
theorem dX7_readWinter_5 : decode cX7_readWinter 5 = .ok (.aload_n 0, 1) := by decide +kernel
theorem dX7_readWinter_6 : decode cX7_readWinter 6 = .ok (.getfield 37, 3) := by decide +kernel
theorem dX7_readWinter_9 : decode cX7_readWinter 9 = .ok (.aload_n 0, 1) := by decide +kernel
theorem dX7_readWinter_10 : decode cX7_readWinter 10 = .ok (.iconst 0, 1) := by decide +kernel
theorem dX7_readWinter_11 : decode cX7_readWinter 11 = .ok (.sipush 200, 3) := by decide +kernel
theorem dX7_readWinter_14 : decode cX7_readWinter 14 = .ok (.invokevirtual 122, 3) := by decide +kernel
theorem dX7_readWinter_17 : decode cX7_readWinter 17 = .ok (.putfield 137, 3) := by decide +kernel
theorem dX7_readWinter_20 : decode cX7_readWinter 20 = .ok (.aload_n 0, 1) := by decide +kernel
theorem dX7_readWinter_21 : decode cX7_readWinter 21 = .ok (.bipush 22, 2) := by decide +kernel
theorem dX7_readWinter_23 : decode cX7_readWinter 23 = .ok (.invokevirtual 105, 3) := by decide +kernel
theorem dX7_readWinter_26 : decode cX7_readWinter 26 = .ok (.aload_n 0, 1) := by decide +kernel
theorem dX7_readWinter_27 : decode cX7_readWinter 27 = .ok (.getfield 37, 3) := by decide +kernel
theorem dX7_readWinter_30 : decode cX7_readWinter 30 = .ok (.aload_n 0, 1) := by decide +kernel
theorem dX7_readWinter_31 : decode cX7_readWinter 31 = .ok (.aload_n 0, 1) := by decide +kernel
theorem dX7_readWinter_32 : decode cX7_readWinter 32 = .ok (.getfield 37, 3) := by decide +kernel
theorem dX7_readWinter_35 : decode cX7_readWinter 35 = .ok (.getfield 137, 3) := by decide +kernel
theorem dX7_readWinter_38 : decode cX7_readWinter 38 = .ok (.sipush 200, 3) := by decide +kernel
theorem dX7_readWinter_41 : decode cX7_readWinter 41 = .ok (.invokevirtual 122, 3) := by decide +kernel
theorem dX7_readWinter_44 : decode cX7_readWinter 44 = .ok (.putfield 140, 3) := by decide +kernel
theorem dX7_readWinter_47 : decode cX7_readWinter 47 = .ok (.return_, 1) := by decide +kernel
theorem dX7_readFormula_0 : decode cX7_readFormula 0 = .ok (.iload_n 1, 1) := by decide +kernel
theorem dX7_readFormula_1 : decode cX7_readFormula 1 = .ok (.iconst 4, 1) := by decide +kernel
theorem dX7_readFormula_2 : decode cX7_readFormula 2 = .ok (.if_icmp .le 11, 3) := by decide +kernel
theorem dX7_readFormula_5 : decode cX7_readFormula 5 = .ok (.aload_n 0, 1) := by decide +kernel
theorem dX7_readFormula_6 : decode cX7_readFormula 6 = .ok (.iload_n 2, 1) := by decide +kernel
theorem dX7_readFormula_7 : decode cX7_readFormula 7 = .ok (.invokevirtual 143, 3) := by decide +kernel
theorem dX7_readFormula_10 : decode cX7_readFormula 10 = .ok (.goto 130, 3) := by decide +kernel
theorem dX7_readFormula_13 : decode cX7_readFormula 13 = .ok (.iload_n 1, 1) := by decide +kernel
theorem dX7_readFormula_14 : decode cX7_readFormula 14 = .ok (.iconst 2, 1) := by decide +kernel
theorem dX7_readFormula_15 : decode cX7_readFormula 15 = .ok (.if_icmp .ne 20, 3) := by decide +kernel
theorem dX7_readFormula_18 : decode cX7_readFormula 18 = .ok (.aload_n 0, 1) := by decide +kernel
theorem dX7_readFormula_19 : decode cX7_readFormula 19 = .ok (.bipush 30, 2) := by decide +kernel
theorem dX7_readFormula_21 : decode cX7_readFormula 21 = .ok (.invokevirtual 65, 3) := by decide +kernel
theorem dX7_readFormula_24 : decode cX7_readFormula 24 = .ok (.ifCond .eq 11, 3) := by decide +kernel
theorem dX7_readFormula_27 : decode cX7_readFormula 27 = .ok (.aload_n 0, 1) := by decide +kernel
theorem dX7_readFormula_28 : decode cX7_readFormula 28 = .ok (.iload_n 2, 1) := by decide +kernel
theorem dX7_readFormula_29 : decode cX7_readFormula 29 = .ok (.invokevirtual 146, 3) := by decide +kernel
theorem dX7_readFormula_32 : decode cX7_readFormula 32 = .ok (.goto 108, 3) := by decide +kernel
theorem dX7_readFormula_35 : decode cX7_readFormula 35 = .ok (.aload_n 0, 1) := by decide +kernel
theorem dX7_readFormula_36 : decode cX7_readFormula 36 = .ok (.iload_n 1, 1) := by decide +kernel
theorem dX7_readFormula_37 : decode cX7_readFormula 37 = .ok (.iconst 1, 1) := by decide +kernel
theorem dX7_readFormula_38 : decode cX7_readFormula 38 = .ok (.iadd, 1) := by decide +kernel
theorem dX7_readFormula_39 : decode cX7_readFormula 39 = .ok (.iload_n 2, 1) := by decide +kernel
theorem dX7_readFormula_40 : decode cX7_readFormula 40 = .ok (.invokevirtual 98, 3) := by decide +kernel
theorem dX7_readFormula_43 : decode cX7_readFormula 43 = .ok (.iload_n 1, 1) := by decide +kernel
theorem dX7_readFormula_44 : decode cX7_readFormula 44 = .ok (.iconst 2, 1) := by decide +kernel
theorem dX7_readFormula_45 : decode cX7_readFormula 45 = .ok (.if_icmp .ne 7, 3) := by decide +kernel
theorem dX7_readFormula_48 : decode cX7_readFormula 48 = .ok (.iconst 1, 1) := by decide +kernel
theorem dX7_readFormula_49 : decode cX7_readFormula 49 = .ok (.goto 6, 3) := by decide +kernel
theorem dX7_readFormula_52 : decode cX7_readFormula 52 = .ok (.sipush 1600, 3) := by decide +kernel
theorem dX7_readFormula_55 : decode cX7_readFormula 55 = .ok (.istore_n 3, 1) := by decide +kernel
theorem dX7_readFormula_56 : decode cX7_readFormula 56 = .ok (.iconst 0, 1) := by decide +kernel
theorem dX7_readFormula_57 : decode cX7_readFormula 57 = .ok (.istore 4, 2) := by decide +kernel
theorem dX7_readFormula_59 : decode cX7_readFormula 59 = .ok (.iload 4, 2) := by decide +kernel
theorem dX7_readFormula_61 : decode cX7_readFormula 61 = .ok (.iload_n 3, 1) := by decide +kernel
theorem dX7_readFormula_62 : decode cX7_readFormula 62 = .ok (.if_icmp .ge 78, 3) := by decide +kernel
theorem dX7_readFormula_65 : decode cX7_readFormula 65 = .ok (.aload_n 0, 1) := by decide +kernel
theorem dX7_readFormula_66 : decode cX7_readFormula 66 = .ok (.getfield 59, 3) := by decide +kernel
theorem dX7_readFormula_69 : decode cX7_readFormula 69 = .ok (.ifCond .ne 71, 3) := by decide +kernel
theorem dX7_readFormula_72 : decode cX7_readFormula 72 = .ok (.aload_n 0, 1) := by decide +kernel
theorem dX7_readFormula_73 : decode cX7_readFormula 73 = .ok (.getfield 12, 3) := by decide +kernel
theorem dX7_readFormula_76 : decode cX7_readFormula 76 = .ok (.aload_n 0, 1) := by decide +kernel
theorem dX7_readFormula_77 : decode cX7_readFormula 77 = .ok (.getfield 56, 3) := by decide +kernel
theorem dX7_readFormula_80 : decode cX7_readFormula 80 = .ok (.invokevirtual 72, 3) := by decide +kernel
theorem dX7_readFormula_83 : decode cX7_readFormula 83 = .ok (.iload_n 1, 1) := by decide +kernel
theorem dX7_readFormula_84 : decode cX7_readFormula 84 = .ok (.invokestatic 149, 3) := by decide +kernel
theorem dX7_readFormula_87 : decode cX7_readFormula 87 = .ok (.ifCond .eq 53, 3) := by decide +kernel
theorem dX7_readFormula_90 : decode cX7_readFormula 90 = .ok (.aload_n 0, 1) := by decide +kernel
theorem dX7_readFormula_91 : decode cX7_readFormula 91 = .ok (.getfield 12, 3) := by decide +kernel
theorem dX7_readFormula_94 : decode cX7_readFormula 94 = .ok (.aload_n 0, 1) := by decide +kernel
theorem dX7_readFormula_95 : decode cX7_readFormula 95 = .ok (.getfield 56, 3) := by decide +kernel
theorem dX7_readFormula_98 : decode cX7_readFormula 98 = .ok (.invokevirtual 72, 3) := by decide +kernel
theorem dX7_readFormula_101 : decode cX7_readFormula 101 = .ok (.istore 5, 2) := by decide +kernel
theorem dX7_readFormula_103 : decode cX7_readFormula 103 = .ok (.aload_n 0, 1) := by decide +kernel
theorem dX7_readFormula_104 : decode cX7_readFormula 104 = .ok (.dup, 1) := by decide +kernel
theorem dX7_readFormula_105 : decode cX7_readFormula 105 = .ok (.getfield 56, 3) := by decide +kernel
theorem dX7_readFormula_108 : decode cX7_readFormula 108 = .ok (.iconst 1, 1) := by decide +kernel
theorem dX7_readFormula_109 : decode cX7_readFormula 109 = .ok (.iadd, 1) := by decide +kernel
theorem dX7_readFormula_110 : decode cX7_readFormula 110 = .ok (.putfield 56, 3) := by decide +kernel
theorem dX7_readFormula_113 : decode cX7_readFormula 113 = .ok (.aload_n 0, 1) := by decide +kernel
theorem dX7_readFormula_114 : decode cX7_readFormula 114 = .ok (.iload_n 1, 1) := by decide +kernel
theorem dX7_readFormula_115 : decode cX7_readFormula 115 = .ok (.iconst 1, 1) := by decide +kernel
theorem dX7_readFormula_116 : decode cX7_readFormula 116 = .ok (.iadd, 1) := by decide +kernel
theorem dX7_readFormula_117 : decode cX7_readFormula 117 = .ok (.iload_n 2, 1) := by decide +kernel
theorem dX7_readFormula_118 : decode cX7_readFormula 118 = .ok (.invokevirtual 98, 3) := by decide +kernel
theorem dX7_readFormula_121 : decode cX7_readFormula 121 = .ok (.aload_n 0, 1) := by decide +kernel
theorem dX7_readFormula_122 : decode cX7_readFormula 122 = .ok (.getfield 37, 3) := by decide +kernel
theorem dX7_readFormula_125 : decode cX7_readFormula 125 = .ok (.getfield 152, 3) := by decide +kernel
theorem dX7_readFormula_128 : decode cX7_readFormula 128 = .ok (.iload 5, 2) := by decide +kernel
theorem dX7_readFormula_130 : decode cX7_readFormula 130 = .ok (.ineg, 1) := by decide +kernel
theorem dX7_readFormula_131 : decode cX7_readFormula 131 = .ok (.invokevirtual 156, 3) := by decide +kernel
theorem dX7_readFormula_134 : decode cX7_readFormula 134 = .ok (.iinc 4 1, 3) := by decide +kernel
theorem dX7_readFormula_137 : decode cX7_readFormula 137 = .ok (.goto (-78), 3) := by decide +kernel
theorem dX7_readFormula_140 : decode cX7_readFormula 140 = .ok (.return_, 1) := by decide +kernel
theorem dX7_readNot_0 : decode cX7_readNot 0 = .ok (.iload_n 1, 1) := by decide +kernel
theorem dX7_readNot_1 : decode cX7_readNot 1 = .ok (.bipush 6, 2) := by decide +kernel
theorem dX7_readNot_3 : decode cX7_readNot 3 = .ok (.if_icmp .le 9, 3) := by decide +kernel
theorem dX7_readNot_6 : decode cX7_readNot 6 = .ok (.aload_n 0, 1) := by decide +kernel
theorem dX7_readNot_7 : decode cX7_readNot 7 = .ok (.iconst 2, 1) := by decide +kernel
theorem dX7_readNot_8 : decode cX7_readNot 8 = .ok (.invokevirtual 79, 3) := by decide +kernel
theorem dX7_readNot_11 : decode cX7_readNot 11 = .ok (.return_, 1) := by decide +kernel
theorem dX7_readNot_12 : decode cX7_readNot 12 = .ok (.aload_n 0, 1) := by decide +kernel
theorem dX7_readNot_13 : decode cX7_readNot 13 = .ok (.dup, 1) := by decide +kernel
theorem dX7_readNot_14 : decode cX7_readNot 14 = .ok (.getfield 56, 3) := by decide +kernel
theorem dX7_readNot_17 : decode cX7_readNot 17 = .ok (.iconst 1, 1) := by decide +kernel
theorem dX7_readNot_18 : decode cX7_readNot 18 = .ok (.iadd, 1) := by decide +kernel
theorem dX7_readNot_19 : decode cX7_readNot 19 = .ok (.putfield 56, 3) := by decide +kernel
theorem dX7_readNot_22 : decode cX7_readNot 22 = .ok (.aload_n 0, 1) := by decide +kernel
theorem dX7_readNot_23 : decode cX7_readNot 23 = .ok (.iconst 2, 1) := by decide +kernel
theorem dX7_readNot_24 : decode cX7_readNot 24 = .ok (.iload_n 1, 1) := by decide +kernel
theorem dX7_readNot_25 : decode cX7_readNot 25 = .ok (.iconst 1, 1) := by decide +kernel
theorem dX7_readNot_26 : decode cX7_readNot 26 = .ok (.iadd, 1) := by decide +kernel
theorem dX7_readNot_27 : decode cX7_readNot 27 = .ok (.invokevirtual 98, 3) := by decide +kernel
theorem dX7_readNot_30 : decode cX7_readNot 30 = .ok (.aload_n 0, 1) := by decide +kernel
theorem dX7_readNot_31 : decode cX7_readNot 31 = .ok (.getfield 37, 3) := by decide +kernel
theorem dX7_readNot_34 : decode cX7_readNot 34 = .ok (.getfield 152, 3) := by decide +kernel
theorem dX7_readNot_37 : decode cX7_readNot 37 = .ok (.bipush (-30), 2) := by decide +kernel
theorem dX7_readNot_39 : decode cX7_readNot 39 = .ok (.invokevirtual 156, 3) := by decide +kernel
theorem dX7_readNot_42 : decode cX7_readNot 42 = .ok (.return_, 1) := by decide +kernel
theorem dX7_readUnit_0 : decode cX7_readUnit 0 = .ok (.aload_n 0, 1) := by decide +kernel
theorem dX7_readUnit_1 : decode cX7_readUnit 1 = .ok (.getfield 12, 3) := by decide +kernel
theorem dX7_readUnit_4 : decode cX7_readUnit 4 = .ok (.aload_n 0, 1) := by decide +kernel
theorem dX7_readUnit_5 : decode cX7_readUnit 5 = .ok (.getfield 56, 3) := by decide +kernel
theorem dX7_readUnit_8 : decode cX7_readUnit 8 = .ok (.invokevirtual 72, 3) := by decide +kernel
theorem dX7_readUnit_11 : decode cX7_readUnit 11 = .ok (.istore_n 2, 1) := by decide +kernel
theorem dX7_readUnit_12 : decode cX7_readUnit 12 = .ok (.iload_n 2, 1) := by decide +kernel
theorem dX7_readUnit_13 : decode cX7_readUnit 13 = .ok (.iconst 5, 1) := by decide +kernel
theorem dX7_readUnit_14 : decode cX7_readUnit 14 = .ok (.if_icmp .ne 7, 3) := by decide +kernel
theorem dX7_readUnit_17 : decode cX7_readUnit 17 = .ok (.iconst 1, 1) := by decide +kernel
theorem dX7_readUnit_18 : decode cX7_readUnit 18 = .ok (.goto 4, 3) := by decide +kernel
theorem dX7_readUnit_21 : decode cX7_readUnit 21 = .ok (.iconst 0, 1) := by decide +kernel
theorem dX7_readUnit_22 : decode cX7_readUnit 22 = .ok (.istore_n 3, 1) := by decide +kernel
theorem dX7_readUnit_23 : decode cX7_readUnit 23 = .ok (.iload_n 2, 1) := by decide +kernel
theorem dX7_readUnit_24 : decode cX7_readUnit 24 = .ok (.iconst 3, 1) := by decide +kernel
theorem dX7_readUnit_25 : decode cX7_readUnit 25 = .ok (.if_icmp .eq 27, 3) := by decide +kernel
theorem dX7_readUnit_28 : decode cX7_readUnit 28 = .ok (.iload_n 2, 1) := by decide +kernel
theorem dX7_readUnit_29 : decode cX7_readUnit 29 = .ok (.bipush 31, 2) := by decide +kernel
theorem dX7_readUnit_31 : decode cX7_readUnit 31 = .ok (.if_icmp .eq 21, 3) := by decide +kernel
theorem dX7_readUnit_34 : decode cX7_readUnit 34 = .ok (.iload_n 2, 1) := by decide +kernel
theorem dX7_readUnit_35 : decode cX7_readUnit 35 = .ok (.bipush 24, 2) := by decide +kernel
theorem dX7_readUnit_37 : decode cX7_readUnit 37 = .ok (.if_icmp .eq 15, 3) := by decide +kernel
theorem dX7_readUnit_40 : decode cX7_readUnit 40 = .ok (.iload_n 2, 1) := by decide +kernel
theorem dX7_readUnit_41 : decode cX7_readUnit 41 = .ok (.bipush 32, 2) := by decide +kernel
theorem dX7_readUnit_43 : decode cX7_readUnit 43 = .ok (.if_icmp .eq 9, 3) := by decide +kernel
theorem dX7_readUnit_46 : decode cX7_readUnit 46 = .ok (.iload_n 2, 1) := by decide +kernel
theorem dX7_readUnit_47 : decode cX7_readUnit 47 = .ok (.bipush 33, 2) := by decide +kernel
theorem dX7_readUnit_49 : decode cX7_readUnit 49 = .ok (.if_icmp .ne 7, 3) := by decide +kernel
theorem dX7_readUnit_52 : decode cX7_readUnit 52 = .ok (.iconst 1, 1) := by decide +kernel
theorem dX7_readUnit_53 : decode cX7_readUnit 53 = .ok (.goto 4, 3) := by decide +kernel
theorem dX7_readUnit_56 : decode cX7_readUnit 56 = .ok (.iconst 0, 1) := by decide +kernel
theorem dX7_readUnit_57 : decode cX7_readUnit 57 = .ok (.istore 4, 2) := by decide +kernel
theorem dX7_readUnit_59 : decode cX7_readUnit 59 = .ok (.iload_n 3, 1) := by decide +kernel
theorem dX7_readUnit_60 : decode cX7_readUnit 60 = .ok (.ifCond .eq 13, 3) := by decide +kernel
theorem dX7_readUnit_63 : decode cX7_readUnit 63 = .ok (.iload_n 1, 1) := by decide +kernel
theorem dX7_readUnit_64 : decode cX7_readUnit 64 = .ok (.bipush 6, 2) := by decide +kernel
theorem dX7_readUnit_66 : decode cX7_readUnit 66 = .ok (.if_icmp .le 7, 3) := by decide +kernel
theorem dX7_readUnit_69 : decode cX7_readUnit 69 = .ok (.iconst 1, 1) := by decide +kernel
theorem dX7_readUnit_70 : decode cX7_readUnit 70 = .ok (.goto 4, 3) := by decide +kernel
theorem dX7_readUnit_73 : decode cX7_readUnit 73 = .ok (.iconst 0, 1) := by decide +kernel
theorem dX7_readUnit_74 : decode cX7_readUnit 74 = .ok (.istore 5, 2) := by decide +kernel
theorem dX7_readUnit_76 : decode cX7_readUnit 76 = .ok (.aload_n 0, 1) := by decide +kernel
theorem dX7_readUnit_77 : decode cX7_readUnit 77 = .ok (.getfield 59, 3) := by decide +kernel
theorem dX7_readUnit_80 : decode cX7_readUnit 80 = .ok (.ifCond .ne 30, 3) := by decide +kernel
theorem dX7_readUnit_83 : decode cX7_readUnit 83 = .ok (.iload_n 3, 1) := by decide +kernel
theorem dX7_readUnit_84 : decode cX7_readUnit 84 = .ok (.ifCond .ne 8, 3) := by decide +kernel
theorem dX7_readUnit_87 : decode cX7_readUnit 87 = .ok (.iload 4, 2) := by decide +kernel
theorem dX7_readUnit_89 : decode cX7_readUnit 89 = .ok (.ifCond .eq 21, 3) := by decide +kernel
theorem dX7_readUnit_92 : decode cX7_readUnit 92 = .ok (.iload 5, 2) := by decide +kernel
theorem dX7_readUnit_94 : decode cX7_readUnit 94 = .ok (.ifCond .ne 16, 3) := by decide +kernel
theorem dX7_readUnit_97 : decode cX7_readUnit 97 = .ok (.aload_n 0, 1) := by decide +kernel
theorem dX7_readUnit_98 : decode cX7_readUnit 98 = .ok (.getfield 37, 3) := by decide +kernel
theorem dX7_readUnit_101 : decode cX7_readUnit 101 = .ok (.getfield 152, 3) := by decide +kernel
theorem dX7_readUnit_104 : decode cX7_readUnit 104 = .ok (.invokevirtual 161, 3) := by decide +kernel
theorem dX7_readUnit_107 : decode cX7_readUnit 107 = .ok (.ifCond .eq 9, 3) := by decide +kernel
theorem dX7_readUnit_110 : decode cX7_readUnit 110 = .ok (.aload_n 0, 1) := by decide +kernel
theorem dX7_readUnit_111 : decode cX7_readUnit 111 = .ok (.iconst 2, 1) := by decide +kernel
theorem dX7_readUnit_112 : decode cX7_readUnit 112 = .ok (.invokevirtual 79, 3) := by decide +kernel
theorem dX7_readUnit_115 : decode cX7_readUnit 115 = .ok (.return_, 1) := by decide +kernel
theorem dX7_readUnit_116 : decode cX7_readUnit 116 = .ok (.aload_n 0, 1) := by decide +kernel
theorem dX7_readUnit_117 : decode cX7_readUnit 117 = .ok (.getfield 37, 3) := by decide +kernel
theorem dX7_readUnit_120 : decode cX7_readUnit 120 = .ok (.getfield 152, 3) := by decide +kernel
theorem dX7_readUnit_123 : decode cX7_readUnit 123 = .ok (.dup, 1) := by decide +kernel
theorem dX7_readUnit_124 : decode cX7_readUnit 124 = .ok (.getfield 162, 3) := by decide +kernel
theorem dX7_readUnit_127 : decode cX7_readUnit 127 = .ok (.iconst 1, 1) := by decide +kernel
theorem dX7_readUnit_128 : decode cX7_readUnit 128 = .ok (.iadd, 1) := by decide +kernel
theorem dX7_readUnit_129 : decode cX7_readUnit 129 = .ok (.putfield 162, 3) := by decide +kernel
theorem dX7_readUnit_132 : decode cX7_readUnit 132 = .ok (.aload_n 0, 1) := by decide +kernel
theorem dX7_readUnit_133 : decode cX7_readUnit 133 = .ok (.getfield 12, 3) := by decide +kernel
theorem dX7_readUnit_136 : decode cX7_readUnit 136 = .ok (.aload_n 0, 1) := by decide +kernel
theorem dX7_readUnit_137 : decode cX7_readUnit 137 = .ok (.getfield 56, 3) := by decide +kernel
theorem dX7_readUnit_140 : decode cX7_readUnit 140 = .ok (.invokevirtual 165, 3) := by decide +kernel
theorem dX7_readUnit_143 : decode cX7_readUnit 143 = .ok (.l2i, 1) := by decide +kernel
theorem dX7_readUnit_144 : decode cX7_readUnit 144 = .ok (.istore 6, 2) := by decide +kernel
theorem dX7_readUnit_146 : decode cX7_readUnit 146 = .ok (.aload_n 0, 1) := by decide +kernel
theorem dX7_readUnit_147 : decode cX7_readUnit 147 = .ok (.dup, 1) := by decide +kernel
theorem dX7_readUnit_148 : decode cX7_readUnit 148 = .ok (.getfield 56, 3) := by decide +kernel
theorem dX7_readUnit_151 : decode cX7_readUnit 151 = .ok (.iconst 1, 1) := by decide +kernel
theorem dX7_readUnit_152 : decode cX7_readUnit 152 = .ok (.iadd, 1) := by decide +kernel
theorem dX7_readUnit_153 : decode cX7_readUnit 153 = .ok (.putfield 56, 3) := by decide +kernel
theorem dX7_readUnit_156 : decode cX7_readUnit 156 = .ok (.iload_n 3, 1) := by decide +kernel
theorem dX7_readUnit_157 : decode cX7_readUnit 157 = .ok (.ifCond .eq 20, 3) := by decide +kernel
theorem dX7_readUnit_160 : decode cX7_readUnit 160 = .ok (.aload_n 0, 1) := by decide +kernel
theorem dX7_readUnit_161 : decode cX7_readUnit 161 = .ok (.iconst 0, 1) := by decide +kernel
theorem dX7_readUnit_162 : decode cX7_readUnit 162 = .ok (.iload_n 1, 1) := by decide +kernel
theorem dX7_readUnit_163 : decode cX7_readUnit 163 = .ok (.iconst 1, 1) := by decide +kernel
theorem dX7_readUnit_164 : decode cX7_readUnit 164 = .ok (.iadd, 1) := by decide +kernel
theorem dX7_readUnit_165 : decode cX7_readUnit 165 = .ok (.invokevirtual 98, 3) := by decide +kernel
theorem dX7_readUnit_168 : decode cX7_readUnit 168 = .ok (.aload_n 0, 1) := by decide +kernel
theorem dX7_readUnit_169 : decode cX7_readUnit 169 = .ok (.bipush 6, 2) := by decide +kernel
theorem dX7_readUnit_171 : decode cX7_readUnit 171 = .ok (.invokevirtual 105, 3) := by decide +kernel
theorem dX7_readUnit_174 : decode cX7_readUnit 174 = .ok (.goto 25, 3) := by decide +kernel
theorem dX7_readUnit_177 : decode cX7_readUnit 177 = .ok (.aload_n 0, 1) := by decide +kernel
theorem dX7_readUnit_178 : decode cX7_readUnit 178 = .ok (.getfield 37, 3) := by decide +kernel
theorem dX7_readUnit_181 : decode cX7_readUnit 181 = .ok (.getfield 152, 3) := by decide +kernel
theorem dX7_readUnit_184 : decode cX7_readUnit 184 = .ok (.iload_n 2, 1) := by decide +kernel
theorem dX7_readUnit_185 : decode cX7_readUnit 185 = .ok (.iconst 3, 1) := by decide +kernel
theorem dX7_readUnit_186 : decode cX7_readUnit 186 = .ok (.if_icmp .ne 8, 3) := by decide +kernel
theorem dX7_readUnit_189 : decode cX7_readUnit 189 = .ok (.iload 6, 2) := by decide +kernel
theorem dX7_readUnit_191 : decode cX7_readUnit 191 = .ok (.goto 5, 3) := by decide +kernel
theorem dX7_readUnit_194 : decode cX7_readUnit 194 = .ok (.iload_n 2, 1) := by decide +kernel
theorem dX7_readUnit_195 : decode cX7_readUnit 195 = .ok (.ineg, 1) := by decide +kernel
theorem dX7_readUnit_196 : decode cX7_readUnit 196 = .ok (.invokevirtual 156, 3) := by decide +kernel
theorem dX7_readUnit_199 : decode cX7_readUnit 199 = .ok (.return_, 1) := by decide +kernel
theorem dX7_isOperator_0 : decode cX7_isOperator 0 = .ok (.iload_n 1, 1) := by decide +kernel
theorem dX7_isOperator_1 : decode cX7_isOperator 1 = .ok (.tableswitch 97 0 3 #[31, 43, 55, 79], 31) := by decide +kernel
theorem dX7_isOperator_32 : decode cX7_isOperator 32 = .ok (.iload_n 0, 1) := by decide +kernel
theorem dX7_isOperator_33 : decode cX7_isOperator 33 = .ok (.bipush 28, 2) := by decide +kernel
theorem dX7_isOperator_35 : decode cX7_isOperator 35 = .ok (.if_icmp .ne 7, 3) := by decide +kernel
theorem dX7_isOperator_38 : decode cX7_isOperator 38 = .ok (.iconst 1, 1) := by decide +kernel
theorem dX7_isOperator_39 : decode cX7_isOperator 39 = .ok (.goto 4, 3) := by decide +kernel
theorem dX7_isOperator_42 : decode cX7_isOperator 42 = .ok (.iconst 0, 1) := by decide +kernel
theorem dX7_isOperator_43 : decode cX7_isOperator 43 = .ok (.ireturn, 1) := by decide +kernel
theorem dX7_isOperator_44 : decode cX7_isOperator 44 = .ok (.iload_n 0, 1) := by decide +kernel
theorem dX7_isOperator_45 : decode cX7_isOperator 45 = .ok (.bipush 29, 2) := by decide +kernel
theorem dX7_isOperator_47 : decode cX7_isOperator 47 = .ok (.if_icmp .ne 7, 3) := by decide +kernel
theorem dX7_isOperator_50 : decode cX7_isOperator 50 = .ok (.iconst 1, 1) := by decide +kernel
theorem dX7_isOperator_51 : decode cX7_isOperator 51 = .ok (.goto 4, 3) := by decide +kernel
theorem dX7_isOperator_54 : decode cX7_isOperator 54 = .ok (.iconst 0, 1) := by decide +kernel
theorem dX7_isOperator_55 : decode cX7_isOperator 55 = .ok (.ireturn, 1) := by decide +kernel
theorem dX7_isOperator_56 : decode cX7_isOperator 56 = .ok (.iload_n 0, 1) := by decide +kernel
theorem dX7_isOperator_57 : decode cX7_isOperator 57 = .ok (.bipush 7, 2) := by decide +kernel
theorem dX7_isOperator_59 : decode cX7_isOperator 59 = .ok (.if_icmp .eq 15, 3) := by decide +kernel
theorem dX7_isOperator_62 : decode cX7_isOperator 62 = .ok (.iload_n 0, 1) := by decide +kernel
theorem dX7_isOperator_63 : decode cX7_isOperator 63 = .ok (.bipush 8, 2) := by decide +kernel
theorem dX7_isOperator_65 : decode cX7_isOperator 65 = .ok (.if_icmp .eq 9, 3) := by decide +kernel
theorem dX7_isOperator_68 : decode cX7_isOperator 68 = .ok (.iload_n 0, 1) := by decide +kernel
theorem dX7_isOperator_69 : decode cX7_isOperator 69 = .ok (.bipush 9, 2) := by decide +kernel
theorem dX7_isOperator_71 : decode cX7_isOperator 71 = .ok (.if_icmp .ne 7, 3) := by decide +kernel
theorem dX7_isOperator_74 : decode cX7_isOperator 74 = .ok (.iconst 1, 1) := by decide +kernel
theorem dX7_isOperator_75 : decode cX7_isOperator 75 = .ok (.goto 4, 3) := by decide +kernel
theorem dX7_isOperator_78 : decode cX7_isOperator 78 = .ok (.iconst 0, 1) := by decide +kernel
theorem dX7_isOperator_79 : decode cX7_isOperator 79 = .ok (.ireturn, 1) := by decide +kernel
theorem dX7_isOperator_80 : decode cX7_isOperator 80 = .ok (.iload_n 0, 1) := by decide +kernel
theorem dX7_isOperator_81 : decode cX7_isOperator 81 = .ok (.bipush 10, 2) := by decide +kernel
theorem dX7_isOperator_83 : decode cX7_isOperator 83 = .ok (.if_icmp .eq 9, 3) := by decide +kernel
theorem dX7_isOperator_86 : decode cX7_isOperator 86 = .ok (.iload_n 0, 1) := by decide +kernel
theorem dX7_isOperator_87 : decode cX7_isOperator 87 = .ok (.bipush 11, 2) := by decide +kernel
theorem dX7_isOperator_89 : decode cX7_isOperator 89 = .ok (.if_icmp .ne 7, 3) := by decide +kernel
theorem dX7_isOperator_92 : decode cX7_isOperator 92 = .ok (.iconst 1, 1) := by decide +kernel
theorem dX7_isOperator_93 : decode cX7_isOperator 93 = .ok (.goto 4, 3) := by decide +kernel
theorem dX7_isOperator_96 : decode cX7_isOperator 96 = .ok (.iconst 0, 1) := by decide +kernel
theorem dX7_isOperator_97 : decode cX7_isOperator 97 = .ok (.ireturn, 1) := by decide +kernel
theorem dX7_isOperator_98 : decode cX7_isOperator 98 = .ok (.iload_n 0, 1) := by decide +kernel
theorem dX7_isOperator_99 : decode cX7_isOperator 99 = .ok (.bipush 12, 2) := by decide +kernel
theorem dX7_isOperator_101 : decode cX7_isOperator 101 = .ok (.if_icmp .eq 15, 3) := by decide +kernel
theorem dX7_isOperator_104 : decode cX7_isOperator 104 = .ok (.iload_n 0, 1) := by decide +kernel
theorem dX7_isOperator_105 : decode cX7_isOperator 105 = .ok (.bipush 13, 2) := by decide +kernel
theorem dX7_isOperator_107 : decode cX7_isOperator 107 = .ok (.if_icmp .eq 9, 3) := by decide +kernel
theorem dX7_isOperator_110 : decode cX7_isOperator 110 = .ok (.iload_n 0, 1) := by decide +kernel
theorem dX7_isOperator_111 : decode cX7_isOperator 111 = .ok (.bipush 14, 2) := by decide +kernel
theorem dX7_isOperator_113 : decode cX7_isOperator 113 = .ok (.if_icmp .ne 7, 3) := by decide +kernel
theorem dX7_isOperator_116 : decode cX7_isOperator 116 = .ok (.iconst 1, 1) := by decide +kernel
theorem dX7_isOperator_117 : decode cX7_isOperator 117 = .ok (.goto 4, 3) := by decide +kernel
theorem dX7_isOperator_120 : decode cX7_isOperator 120 = .ok (.iconst 0, 1) := by decide +kernel
theorem dX7_isOperator_121 : decode cX7_isOperator 121 = .ok (.ireturn, 1) := by decide +kernel
theorem dX7_sees_0 : decode cX7_sees 0 = .ok (.aload_n 0, 1) := by decide +kernel
theorem dX7_sees_1 : decode cX7_sees 1 = .ok (.getfield 59, 3) := by decide +kernel
theorem dX7_sees_4 : decode cX7_sees 4 = .ok (.ifCond .ne 22, 3) := by decide +kernel
theorem dX7_sees_7 : decode cX7_sees 7 = .ok (.aload_n 0, 1) := by decide +kernel
theorem dX7_sees_8 : decode cX7_sees 8 = .ok (.getfield 12, 3) := by decide +kernel
theorem dX7_sees_11 : decode cX7_sees 11 = .ok (.aload_n 0, 1) := by decide +kernel
theorem dX7_sees_12 : decode cX7_sees 12 = .ok (.getfield 56, 3) := by decide +kernel
theorem dX7_sees_15 : decode cX7_sees 15 = .ok (.invokevirtual 72, 3) := by decide +kernel
theorem dX7_sees_18 : decode cX7_sees 18 = .ok (.iload_n 1, 1) := by decide +kernel
theorem dX7_sees_19 : decode cX7_sees 19 = .ok (.if_icmp .ne 7, 3) := by decide +kernel
theorem dX7_sees_22 : decode cX7_sees 22 = .ok (.iconst 1, 1) := by decide +kernel
theorem dX7_sees_23 : decode cX7_sees 23 = .ok (.goto 4, 3) := by decide +kernel
theorem dX7_sees_26 : decode cX7_sees 26 = .ok (.iconst 0, 1) := by decide +kernel
theorem dX7_sees_27 : decode cX7_sees 27 = .ok (.ireturn, 1) := by decide +kernel
theorem dX7_want_0 : decode cX7_want 0 = .ok (.aload_n 0, 1) := by decide +kernel
theorem dX7_want_1 : decode cX7_want 1 = .ok (.iload_n 1, 1) := by decide +kernel
theorem dX7_want_2 : decode cX7_want 2 = .ok (.invokevirtual 65, 3) := by decide +kernel
theorem dX7_want_5 : decode cX7_want 5 = .ok (.ifCond .eq 16, 3) := by decide +kernel
theorem dX7_want_8 : decode cX7_want 8 = .ok (.aload_n 0, 1) := by decide +kernel
theorem dX7_want_9 : decode cX7_want 9 = .ok (.dup, 1) := by decide +kernel
theorem dX7_want_10 : decode cX7_want 10 = .ok (.getfield 56, 3) := by decide +kernel
theorem dX7_want_13 : decode cX7_want 13 = .ok (.iconst 1, 1) := by decide +kernel
theorem dX7_want_14 : decode cX7_want 14 = .ok (.iadd, 1) := by decide +kernel
theorem dX7_want_15 : decode cX7_want 15 = .ok (.putfield 56, 3) := by decide +kernel
