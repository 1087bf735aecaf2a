theorem dX7_want_18 : decode cX7_want 18 = .ok (.goto 8, 3) := by decide +kernel
theorem dX7_want_21 : decode cX7_want 21 = .ok (.aload_n 0, 1) := by decide +kernel
theorem dX7_want_22 : decode cX7_want 22 = .ok (.iconst 2, 1) := by decide +kernel
theorem dX7_want_23 : decode cX7_want 23 = .ok (.invokevirtual 79, 3) := by decide +kernel
theorem dX7_want_26 : decode cX7_want 26 = .ok (.return_, 1) := by decide +kernel
theorem dX7_readNewName_0 : decode cX7_readNewName 0 = .ok (.aload_n 0, 1) := by decide +kernel
theorem dX7_readNewName_1 : decode cX7_readNewName 1 = .ok (.iconst 2, 1) := by decide +kernel
theorem dX7_readNewName_2 : decode cX7_readNewName 2 = .ok (.invokevirtual 65, 3) := by decide +kernel
theorem dX7_readNewName_5 : decode cX7_readNewName 5 = .ok (.ifCond .ne 11, 3) := by decide +kernel
theorem dX7_readNewName_8 : decode cX7_readNewName 8 = .ok (.aload_n 0, 1) := by decide +kernel
theorem dX7_readNewName_9 : decode cX7_readNewName 9 = .ok (.iconst 2, 1) := by decide +kernel
theorem dX7_readNewName_10 : decode cX7_readNewName 10 = .ok (.invokevirtual 79, 3) := by decide +kernel
theorem dX7_readNewName_13 : decode cX7_readNewName 13 = .ok (.goto 55, 3) := by decide +kernel
theorem dX7_readNewName_16 : decode cX7_readNewName 16 = .ok (.aload_n 1, 1) := by decide +kernel
theorem dX7_readNewName_17 : decode cX7_readNewName 17 = .ok (.aload_n 0, 1) := by decide +kernel
theorem dX7_readNewName_18 : decode cX7_readNewName 18 = .ok (.getfield 12, 3) := by decide +kernel
theorem dX7_readNewName_21 : decode cX7_readNewName 21 = .ok (.aload_n 0, 1) := by decide +kernel
theorem dX7_readNewName_22 : decode cX7_readNewName 22 = .ok (.getfield 56, 3) := by decide +kernel
theorem dX7_readNewName_25 : decode cX7_readNewName 25 = .ok (.invokevirtual 165, 3) := by decide +kernel
theorem dX7_readNewName_28 : decode cX7_readNewName 28 = .ok (.invokevirtual 169, 3) := by decide +kernel
theorem dX7_readNewName_31 : decode cX7_readNewName 31 = .ok (.iconst (-1), 1) := by decide +kernel
theorem dX7_readNewName_32 : decode cX7_readNewName 32 = .ok (.if_icmp .eq 11, 3) := by decide +kernel
theorem dX7_readNewName_35 : decode cX7_readNewName 35 = .ok (.aload_n 0, 1) := by decide +kernel
theorem dX7_readNewName_36 : decode cX7_readNewName 36 = .ok (.iconst 3, 1) := by decide +kernel
theorem dX7_readNewName_37 : decode cX7_readNewName 37 = .ok (.invokevirtual 79, 3) := by decide +kernel
theorem dX7_readNewName_40 : decode cX7_readNewName 40 = .ok (.goto 28, 3) := by decide +kernel
theorem dX7_readNewName_43 : decode cX7_readNewName 43 = .ok (.aload_n 1, 1) := by decide +kernel
theorem dX7_readNewName_44 : decode cX7_readNewName 44 = .ok (.aload_n 0, 1) := by decide +kernel
theorem dX7_readNewName_45 : decode cX7_readNewName 45 = .ok (.getfield 12, 3) := by decide +kernel
theorem dX7_readNewName_48 : decode cX7_readNewName 48 = .ok (.aload_n 0, 1) := by decide +kernel
theorem dX7_readNewName_49 : decode cX7_readNewName 49 = .ok (.getfield 56, 3) := by decide +kernel
theorem dX7_readNewName_52 : decode cX7_readNewName 52 = .ok (.invokevirtual 165, 3) := by decide +kernel
theorem dX7_readNewName_55 : decode cX7_readNewName 55 = .ok (.invokevirtual 173, 3) := by decide +kernel
theorem dX7_readNewName_58 : decode cX7_readNewName 58 = .ok (.aload_n 0, 1) := by decide +kernel
theorem dX7_readNewName_59 : decode cX7_readNewName 59 = .ok (.dup, 1) := by decide +kernel
theorem dX7_readNewName_60 : decode cX7_readNewName 60 = .ok (.getfield 56, 3) := by decide +kernel
theorem dX7_readNewName_63 : decode cX7_readNewName 63 = .ok (.iconst 1, 1) := by decide +kernel
theorem dX7_readNewName_64 : decode cX7_readNewName 64 = .ok (.iadd, 1) := by decide +kernel
theorem dX7_readNewName_65 : decode cX7_readNewName 65 = .ok (.putfield 56, 3) := by decide +kernel
theorem dX7_readNewName_68 : decode cX7_readNewName 68 = .ok (.return_, 1) := by decide +kernel
theorem dX7_readVillage_0 : decode cX7_readVillage 0 = .ok (.aload_n 0, 1) := by decide +kernel
theorem dX7_readVillage_1 : decode cX7_readVillage 1 = .ok (.iconst 2, 1) := by decide +kernel
theorem dX7_readVillage_2 : decode cX7_readVillage 2 = .ok (.invokevirtual 65, 3) := by decide +kernel
theorem dX7_readVillage_5 : decode cX7_readVillage 5 = .ok (.ifCond .ne 10, 3) := by decide +kernel
theorem dX7_readVillage_8 : decode cX7_readVillage 8 = .ok (.aload_n 0, 1) := by decide +kernel
theorem dX7_readVillage_9 : decode cX7_readVillage 9 = .ok (.iconst 2, 1) := by decide +kernel
theorem dX7_readVillage_10 : decode cX7_readVillage 10 = .ok (.invokevirtual 79, 3) := by decide +kernel
theorem dX7_readVillage_13 : decode cX7_readVillage 13 = .ok (.iconst (-1), 1) := by decide +kernel
theorem dX7_readVillage_14 : decode cX7_readVillage 14 = .ok (.ireturn, 1) := by decide +kernel
theorem dX7_readVillage_15 : decode cX7_readVillage 15 = .ok (.aload_n 0, 1) := by decide +kernel
theorem dX7_readVillage_16 : decode cX7_readVillage 16 = .ok (.getfield 23, 3) := by decide +kernel
theorem dX7_readVillage_19 : decode cX7_readVillage 19 = .ok (.aload_n 0, 1) := by decide +kernel
theorem dX7_readVillage_20 : decode cX7_readVillage 20 = .ok (.getfield 12, 3) := by decide +kernel
theorem dX7_readVillage_23 : decode cX7_readVillage 23 = .ok (.aload_n 0, 1) := by decide +kernel
theorem dX7_readVillage_24 : decode cX7_readVillage 24 = .ok (.getfield 56, 3) := by decide +kernel
theorem dX7_readVillage_27 : decode cX7_readVillage 27 = .ok (.invokevirtual 165, 3) := by decide +kernel
theorem dX7_readVillage_30 : decode cX7_readVillage 30 = .ok (.invokevirtual 169, 3) := by decide +kernel
theorem dX7_readVillage_33 : decode cX7_readVillage 33 = .ok (.istore_n 2, 1) := by decide +kernel
theorem dX7_readVillage_34 : decode cX7_readVillage 34 = .ok (.iload_n 2, 1) := by decide +kernel
theorem dX7_readVillage_35 : decode cX7_readVillage 35 = .ok (.iconst (-1), 1) := by decide +kernel
theorem dX7_readVillage_36 : decode cX7_readVillage 36 = .ok (.if_icmp .ne 11, 3) := by decide +kernel
theorem dX7_readVillage_39 : decode cX7_readVillage 39 = .ok (.aload_n 0, 1) := by decide +kernel
theorem dX7_readVillage_40 : decode cX7_readVillage 40 = .ok (.iconst 5, 1) := by decide +kernel
theorem dX7_readVillage_41 : decode cX7_readVillage 41 = .ok (.invokevirtual 79, 3) := by decide +kernel
theorem dX7_readVillage_44 : decode cX7_readVillage 44 = .ok (.goto 26, 3) := by decide +kernel
theorem dX7_readVillage_47 : decode cX7_readVillage 47 = .ok (.iload_n 2, 1) := by decide +kernel
theorem dX7_readVillage_48 : decode cX7_readVillage 48 = .ok (.iload_n 1, 1) := by decide +kernel
theorem dX7_readVillage_49 : decode cX7_readVillage 49 = .ok (.if_icmp .ne 11, 3) := by decide +kernel
theorem dX7_readVillage_52 : decode cX7_readVillage 52 = .ok (.aload_n 0, 1) := by decide +kernel
theorem dX7_readVillage_53 : decode cX7_readVillage 53 = .ok (.iconst 3, 1) := by decide +kernel
theorem dX7_readVillage_54 : decode cX7_readVillage 54 = .ok (.invokevirtual 79, 3) := by decide +kernel
theorem dX7_readVillage_57 : decode cX7_readVillage 57 = .ok (.goto 13, 3) := by decide +kernel
theorem dX7_readVillage_60 : decode cX7_readVillage 60 = .ok (.aload_n 0, 1) := by decide +kernel
theorem dX7_readVillage_61 : decode cX7_readVillage 61 = .ok (.dup, 1) := by decide +kernel
theorem dX7_readVillage_62 : decode cX7_readVillage 62 = .ok (.getfield 56, 3) := by decide +kernel
theorem dX7_readVillage_65 : decode cX7_readVillage 65 = .ok (.iconst 1, 1) := by decide +kernel
theorem dX7_readVillage_66 : decode cX7_readVillage 66 = .ok (.iadd, 1) := by decide +kernel
theorem dX7_readVillage_67 : decode cX7_readVillage 67 = .ok (.putfield 56, 3) := by decide +kernel
theorem dX7_readVillage_70 : decode cX7_readVillage 70 = .ok (.iload_n 2, 1) := by decide +kernel
theorem dX7_readVillage_71 : decode cX7_readVillage 71 = .ok (.ireturn, 1) := by decide +kernel
theorem dX7_readNumber_0 : decode cX7_readNumber 0 = .ok (.aload_n 0, 1) := by decide +kernel
theorem dX7_readNumber_1 : decode cX7_readNumber 1 = .ok (.iconst 3, 1) := by decide +kernel
theorem dX7_readNumber_2 : decode cX7_readNumber 2 = .ok (.invokevirtual 65, 3) := by decide +kernel
theorem dX7_readNumber_5 : decode cX7_readNumber 5 = .ok (.ifCond .ne 10, 3) := by decide +kernel
theorem dX7_readNumber_8 : decode cX7_readNumber 8 = .ok (.aload_n 0, 1) := by decide +kernel
theorem dX7_readNumber_9 : decode cX7_readNumber 9 = .ok (.iconst 2, 1) := by decide +kernel
theorem dX7_readNumber_10 : decode cX7_readNumber 10 = .ok (.invokevirtual 79, 3) := by decide +kernel
theorem dX7_readNumber_13 : decode cX7_readNumber 13 = .ok (.iload_n 1, 1) := by decide +kernel
theorem dX7_readNumber_14 : decode cX7_readNumber 14 = .ok (.ireturn, 1) := by decide +kernel
theorem dX7_readNumber_15 : decode cX7_readNumber 15 = .ok (.aload_n 0, 1) := by decide +kernel
theorem dX7_readNumber_16 : decode cX7_readNumber 16 = .ok (.getfield 12, 3) := by decide +kernel
theorem dX7_readNumber_19 : decode cX7_readNumber 19 = .ok (.aload_n 0, 1) := by decide +kernel
theorem dX7_readNumber_20 : decode cX7_readNumber 20 = .ok (.getfield 56, 3) := by decide +kernel
theorem dX7_readNumber_23 : decode cX7_readNumber 23 = .ok (.invokevirtual 165, 3) := by decide +kernel
theorem dX7_readNumber_26 : decode cX7_readNumber 26 = .ok (.l2i, 1) := by decide +kernel
theorem dX7_readNumber_27 : decode cX7_readNumber 27 = .ok (.istore_n 3, 1) := by decide +kernel
theorem dX7_readNumber_28 : decode cX7_readNumber 28 = .ok (.iload_n 3, 1) := by decide +kernel
theorem dX7_readNumber_29 : decode cX7_readNumber 29 = .ok (.iload_n 1, 1) := by decide +kernel
theorem dX7_readNumber_30 : decode cX7_readNumber 30 = .ok (.if_icmp .lt 8, 3) := by decide +kernel
theorem dX7_readNumber_33 : decode cX7_readNumber 33 = .ok (.iload_n 3, 1) := by decide +kernel
theorem dX7_readNumber_34 : decode cX7_readNumber 34 = .ok (.iload_n 2, 1) := by decide +kernel
theorem dX7_readNumber_35 : decode cX7_readNumber 35 = .ok (.if_icmp .le 10, 3) := by decide +kernel
theorem dX7_readNumber_38 : decode cX7_readNumber 38 = .ok (.aload_n 0, 1) := by decide +kernel
theorem dX7_readNumber_39 : decode cX7_readNumber 39 = .ok (.iconst 4, 1) := by decide +kernel
theorem dX7_readNumber_40 : decode cX7_readNumber 40 = .ok (.invokevirtual 79, 3) := by decide +kernel
theorem dX7_readNumber_43 : decode cX7_readNumber 43 = .ok (.iload_n 1, 1) := by decide +kernel
theorem dX7_readNumber_44 : decode cX7_readNumber 44 = .ok (.ireturn, 1) := by decide +kernel
theorem dX7_readNumber_45 : decode cX7_readNumber 45 = .ok (.aload_n 0, 1) := by decide +kernel
theorem dX7_readNumber_46 : decode cX7_readNumber 46 = .ok (.dup, 1) := by decide +kernel
theorem dX7_readNumber_47 : decode cX7_readNumber 47 = .ok (.getfield 56, 3) := by decide +kernel
theorem dX7_readNumber_50 : decode cX7_readNumber 50 = .ok (.iconst 1, 1) := by decide +kernel
theorem dX7_readNumber_51 : decode cX7_readNumber 51 = .ok (.iadd, 1) := by decide +kernel
theorem dX7_readNumber_52 : decode cX7_readNumber 52 = .ok (.putfield 56, 3) := by decide +kernel
theorem dX7_readNumber_55 : decode cX7_readNumber 55 = .ok (.iload_n 3, 1) := by decide +kernel
theorem dX7_readNumber_56 : decode cX7_readNumber 56 = .ok (.ireturn, 1) := by decide +kernel
theorem dX7_fail_0 : decode cX7_fail 0 = .ok (.aload_n 0, 1) := by decide +kernel
theorem dX7_fail_1 : decode cX7_fail 1 = .ok (.getfield 59, 3) := by decide +kernel
theorem dX7_fail_4 : decode cX7_fail 4 = .ok (.ifCond .ne 42, 3) := by decide +kernel
theorem dX7_fail_7 : decode cX7_fail 7 = .ok (.aload_n 0, 1) := by decide +kernel
theorem dX7_fail_8 : decode cX7_fail 8 = .ok (.aload_n 0, 1) := by decide +kernel
theorem dX7_fail_9 : decode cX7_fail 9 = .ok (.getfield 12, 3) := by decide +kernel
theorem dX7_fail_12 : decode cX7_fail 12 = .ok (.aload_n 0, 1) := by decide +kernel
theorem dX7_fail_13 : decode cX7_fail 13 = .ok (.getfield 56, 3) := by decide +kernel
theorem dX7_fail_16 : decode cX7_fail 16 = .ok (.invokevirtual 72, 3) := by decide +kernel
theorem dX7_fail_19 : decode cX7_fail 19 = .ok (.iconst 1, 1) := by decide +kernel
theorem dX7_fail_20 : decode cX7_fail 20 = .ok (.if_icmp .ne 7, 3) := by decide +kernel
theorem dX7_fail_23 : decode cX7_fail 23 = .ok (.iconst 1, 1) := by decide +kernel
theorem dX7_fail_24 : decode cX7_fail 24 = .ok (.goto 4, 3) := by decide +kernel
theorem dX7_fail_27 : decode cX7_fail 27 = .ok (.iload_n 1, 1) := by decide +kernel
theorem dX7_fail_28 : decode cX7_fail 28 = .ok (.putfield 59, 3) := by decide +kernel
theorem dX7_fail_31 : decode cX7_fail 31 = .ok (.aload_n 0, 1) := by decide +kernel
theorem dX7_fail_32 : decode cX7_fail 32 = .ok (.aload_n 0, 1) := by decide +kernel
theorem dX7_fail_33 : decode cX7_fail 33 = .ok (.getfield 12, 3) := by decide +kernel
theorem dX7_fail_36 : decode cX7_fail 36 = .ok (.aload_n 0, 1) := by decide +kernel
theorem dX7_fail_37 : decode cX7_fail 37 = .ok (.getfield 56, 3) := by decide +kernel
theorem dX7_fail_40 : decode cX7_fail 40 = .ok (.invokevirtual 176, 3) := by decide +kernel
theorem dX7_fail_43 : decode cX7_fail 43 = .ok (.putfield 33, 3) := by decide +kernel
theorem dX7_fail_46 : decode cX7_fail 46 = .ok (.return_, 1) := by decide +kernel
theorem dX8_init_0 : decode cX8_init 0 = .ok (.aload_n 0, 1) := by decide +kernel
theorem dX8_init_1 : decode cX8_init 1 = .ok (.invokespecial 3, 3) := by decide +kernel
theorem dX8_init_4 : decode cX8_init 4 = .ok (.aload_n 0, 1) := by decide +kernel
theorem dX8_init_5 : decode cX8_init 5 = .ok (.bipush 7, 2) := by decide +kernel
theorem dX8_init_7 : decode cX8_init 7 = .ok (.bipush 7, 2) := by decide +kernel
theorem dX8_init_9 : decode cX8_init 9 = .ok (.multianewarray 9 2, 4) := by decide +kernel
theorem dX8_init_13 : decode cX8_init 13 = .ok (.putfield 11, 3) := by decide +kernel
theorem dX8_init_16 : decode cX8_init 16 = .ok (.aload_n 0, 1) := by decide +kernel
theorem dX8_init_17 : decode cX8_init 17 = .ok (.bipush 7, 2) := by decide +kernel
theorem dX8_init_19 : decode cX8_init 19 = .ok (.bipush 7, 2) := by decide +kernel
theorem dX8_init_21 : decode cX8_init 21 = .ok (.multianewarray 9 2, 4) := by decide +kernel
theorem dX8_init_25 : decode cX8_init 25 = .ok (.putfield 16, 3) := by decide +kernel
theorem dX8_init_28 : decode cX8_init 28 = .ok (.aload_n 0, 1) := by decide +kernel
theorem dX8_init_29 : decode cX8_init 29 = .ok (.bipush 7, 2) := by decide +kernel
theorem dX8_init_31 : decode cX8_init 31 = .ok (.bipush 7, 2) := by decide +kernel
theorem dX8_init_33 : decode cX8_init 33 = .ok (.multianewarray 9 2, 4) := by decide +kernel
theorem dX8_init_37 : decode cX8_init 37 = .ok (.putfield 19, 3) := by decide +kernel
theorem dX8_init_40 : decode cX8_init 40 = .ok (.aload_n 0, 1) := by decide +kernel
theorem dX8_init_41 : decode cX8_init 41 = .ok (.bipush 7, 2) := by decide +kernel
theorem dX8_init_43 : decode cX8_init 43 = .ok (.newarray .int, 2) := by decide +kernel
theorem dX8_init_45 : decode cX8_init 45 = .ok (.putfield 22, 3) := by decide +kernel
theorem dX8_init_48 : decode cX8_init 48 = .ok (.return_, 1) := by decide +kernel
theorem dX8_lay_0 : decode cX8_lay 0 = .ok (.iconst 0, 1) := by decide +kernel
theorem dX8_lay_1 : decode cX8_lay 1 = .ok (.istore_n 3, 1) := by decide +kernel
theorem dX8_lay_2 : decode cX8_lay 2 = .ok (.iload_n 3, 1) := by decide +kernel
theorem dX8_lay_3 : decode cX8_lay 3 = .ok (.bipush 7, 2) := by decide +kernel
theorem dX8_lay_5 : decode cX8_lay 5 = .ok (.if_icmp .ge 64, 3) := by decide +kernel
theorem dX8_lay_8 : decode cX8_lay 8 = .ok (.aload_n 0, 1) := by decide +kernel
theorem dX8_lay_9 : decode cX8_lay 9 = .ok (.getfield 22, 3) := by decide +kernel
theorem dX8_lay_12 : decode cX8_lay 12 = .ok (.iload_n 3, 1) := by decide +kernel
theorem dX8_lay_13 : decode cX8_lay 13 = .ok (.iconst 0, 1) := by decide +kernel
theorem dX8_lay_14 : decode cX8_lay 14 = .ok (.iastore, 1) := by decide +kernel
theorem dX8_lay_15 : decode cX8_lay 15 = .ok (.iconst 0, 1) := by decide +kernel
theorem dX8_lay_16 : decode cX8_lay 16 = .ok (.istore 4, 2) := by decide +kernel
theorem dX8_lay_18 : decode cX8_lay 18 = .ok (.iload 4, 2) := by decide +kernel
theorem dX8_lay_20 : decode cX8_lay 20 = .ok (.bipush 7, 2) := by decide +kernel
theorem dX8_lay_22 : decode cX8_lay 22 = .ok (.if_icmp .ge 41, 3) := by decide +kernel
theorem dX8_lay_25 : decode cX8_lay 25 = .ok (.aload_n 0, 1) := by decide +kernel
theorem dX8_lay_26 : decode cX8_lay 26 = .ok (.getfield 11, 3) := by decide +kernel
theorem dX8_lay_29 : decode cX8_lay 29 = .ok (.iload_n 3, 1) := by decide +kernel
theorem dX8_lay_30 : decode cX8_lay 30 = .ok (.aaload, 1) := by decide +kernel
theorem dX8_lay_31 : decode cX8_lay 31 = .ok (.iload 4, 2) := by decide +kernel
theorem dX8_lay_33 : decode cX8_lay 33 = .ok (.iload_n 3, 1) := by decide +kernel
theorem dX8_lay_34 : decode cX8_lay 34 = .ok (.iload 4, 2) := by decide +kernel
theorem dX8_lay_36 : decode cX8_lay 36 = .ok (.if_icmp .ne 7, 3) := by decide +kernel
theorem dX8_lay_39 : decode cX8_lay 39 = .ok (.iconst 0, 1) := by decide +kernel
theorem dX8_lay_40 : decode cX8_lay 40 = .ok (.goto 6, 3) := by decide +kernel
theorem dX8_lay_43 : decode cX8_lay 43 = .ok (.sipush 1000, 3) := by decide +kernel
theorem dX8_lay_46 : decode cX8_lay 46 = .ok (.iastore, 1) := by decide +kernel
theorem dX8_lay_47 : decode cX8_lay 47 = .ok (.aload_n 0, 1) := by decide +kernel
theorem dX8_lay_48 : decode cX8_lay 48 = .ok (.getfield 16, 3) := by decide +kernel
theorem dX8_lay_51 : decode cX8_lay 51 = .ok (.iload_n 3, 1) := by decide +kernel
theorem dX8_lay_52 : decode cX8_lay 52 = .ok (.aaload, 1) := by decide +kernel
theorem dX8_lay_53 : decode cX8_lay 53 = .ok (.iload 4, 2) := by decide +kernel
theorem dX8_lay_55 : decode cX8_lay 55 = .ok (.iconst 0, 1) := by decide +kernel
theorem dX8_lay_56 : decode cX8_lay 56 = .ok (.iastore, 1) := by decide +kernel
theorem dX8_lay_57 : decode cX8_lay 57 = .ok (.iinc 4 1, 3) := by decide +kernel
theorem dX8_lay_60 : decode cX8_lay 60 = .ok (.goto (-42), 3) := by decide +kernel
theorem dX8_lay_63 : decode cX8_lay 63 = .ok (.iinc 3 1, 3) := by decide +kernel
theorem dX8_lay_66 : decode cX8_lay 66 = .ok (.goto (-64), 3) := by decide +kernel
theorem dX8_lay_69 : decode cX8_lay 69 = .ok (.iconst 0, 1) := by decide +kernel
theorem dX8_lay_70 : decode cX8_lay 70 = .ok (.istore_n 3, 1) := by decide +kernel
theorem dX8_lay_71 : decode cX8_lay 71 = .ok (.iload_n 3, 1) := by decide +kernel
theorem dX8_lay_72 : decode cX8_lay 72 = .ok (.aload_n 1, 1) := by decide +kernel
theorem dX8_lay_73 : decode cX8_lay 73 = .ok (.getfield 26, 3) := by decide +kernel
theorem dX8_lay_76 : decode cX8_lay 76 = .ok (.if_icmp .ge 81, 3) := by decide +kernel
theorem dX8_lay_79 : decode cX8_lay 79 = .ok (.aload_n 1, 1) := by decide +kernel
theorem dX8_lay_80 : decode cX8_lay 80 = .ok (.getfield 32, 3) := by decide +kernel
theorem dX8_lay_83 : decode cX8_lay 83 = .ok (.iload_n 3, 1) := by decide +kernel
theorem dX8_lay_84 : decode cX8_lay 84 = .ok (.iaload, 1) := by decide +kernel
theorem dX8_lay_85 : decode cX8_lay 85 = .ok (.istore 4, 2) := by decide +kernel
theorem dX8_lay_87 : decode cX8_lay 87 = .ok (.aload_n 1, 1) := by decide +kernel
theorem dX8_lay_88 : decode cX8_lay 88 = .ok (.getfield 35, 3) := by decide +kernel
theorem dX8_lay_91 : decode cX8_lay 91 = .ok (.iload_n 3, 1) := by decide +kernel
theorem dX8_lay_92 : decode cX8_lay 92 = .ok (.iaload, 1) := by decide +kernel
theorem dX8_lay_93 : decode cX8_lay 93 = .ok (.istore 5, 2) := by decide +kernel
theorem dX8_lay_95 : decode cX8_lay 95 = .ok (.iload_n 2, 1) := by decide +kernel
theorem dX8_lay_96 : decode cX8_lay 96 = .ok (.iload_n 3, 1) := by decide +kernel
theorem dX8_lay_97 : decode cX8_lay 97 = .ok (.ishr, 1) := by decide +kernel
theorem dX8_lay_98 : decode cX8_lay 98 = .ok (.iconst 1, 1) := by decide +kernel
theorem dX8_lay_99 : decode cX8_lay 99 = .ok (.iand, 1) := by decide +kernel
theorem dX8_lay_100 : decode cX8_lay 100 = .ok (.ifCond .ne 51, 3) := by decide +kernel
theorem dX8_lay_103 : decode cX8_lay 103 = .ok (.iload 4, 2) := by decide +kernel
theorem dX8_lay_105 : decode cX8_lay 105 = .ok (.bipush 7, 2) := by decide +kernel
theorem dX8_lay_107 : decode cX8_lay 107 = .ok (.invokestatic 38, 3) := by decide +kernel
theorem dX8_lay_110 : decode cX8_lay 110 = .ok (.ifCond .eq 41, 3) := by decide +kernel
theorem dX8_lay_113 : decode cX8_lay 113 = .ok (.iload 5, 2) := by decide +kernel
theorem dX8_lay_115 : decode cX8_lay 115 = .ok (.bipush 7, 2) := by decide +kernel
theorem dX8_lay_117 : decode cX8_lay 117 = .ok (.invokestatic 38, 3) := by decide +kernel
theorem dX8_lay_120 : decode cX8_lay 120 = .ok (.ifCond .eq 31, 3) := by decide +kernel
theorem dX8_lay_123 : decode cX8_lay 123 = .ok (.aload_n 0, 1) := by decide +kernel
theorem dX8_lay_124 : decode cX8_lay 124 = .ok (.iload 4, 2) := by decide +kernel
theorem dX8_lay_126 : decode cX8_lay 126 = .ok (.iload 5, 2) := by decide +kernel
theorem dX8_lay_128 : decode cX8_lay 128 = .ok (.aload_n 1, 1) := by decide +kernel
theorem dX8_lay_129 : decode cX8_lay 129 = .ok (.getfield 42, 3) := by decide +kernel
theorem dX8_lay_132 : decode cX8_lay 132 = .ok (.iload_n 3, 1) := by decide +kernel
theorem dX8_lay_133 : decode cX8_lay 133 = .ok (.iaload, 1) := by decide +kernel
theorem dX8_lay_134 : decode cX8_lay 134 = .ok (.invokevirtual 45, 3) := by decide +kernel
theorem dX8_lay_137 : decode cX8_lay 137 = .ok (.aload_n 0, 1) := by decide +kernel
theorem dX8_lay_138 : decode cX8_lay 138 = .ok (.iload 5, 2) := by decide +kernel
theorem dX8_lay_140 : decode cX8_lay 140 = .ok (.iload 4, 2) := by decide +kernel
theorem dX8_lay_142 : decode cX8_lay 142 = .ok (.aload_n 1, 1) := by decide +kernel
theorem dX8_lay_143 : decode cX8_lay 143 = .ok (.getfield 42, 3) := by decide +kernel
theorem dX8_lay_146 : decode cX8_lay 146 = .ok (.iload_n 3, 1) := by decide +kernel
theorem dX8_lay_147 : decode cX8_lay 147 = .ok (.iaload, 1) := by decide +kernel
theorem dX8_lay_148 : decode cX8_lay 148 = .ok (.invokevirtual 45, 3) := by decide +kernel
theorem dX8_lay_151 : decode cX8_lay 151 = .ok (.iinc 3 1, 3) := by decide +kernel
theorem dX8_lay_154 : decode cX8_lay 154 = .ok (.goto (-83), 3) := by decide +kernel
theorem dX8_lay_157 : decode cX8_lay 157 = .ok (.aload_n 0, 1) := by decide +kernel
theorem dX8_lay_158 : decode cX8_lay 158 = .ok (.invokevirtual 49, 3) := by decide +kernel
theorem dX8_lay_161 : decode cX8_lay 161 = .ok (.iconst 0, 1) := by decide +kernel
theorem dX8_lay_162 : decode cX8_lay 162 = .ok (.istore_n 3, 1) := by decide +kernel
theorem dX8_lay_163 : decode cX8_lay 163 = .ok (.iload_n 3, 1) := by decide +kernel
theorem dX8_lay_164 : decode cX8_lay 164 = .ok (.bipush 7, 2) := by decide +kernel
theorem dX8_lay_166 : decode cX8_lay 166 = .ok (.if_icmp .ge 41, 3) := by decide +kernel
theorem dX8_lay_169 : decode cX8_lay 169 = .ok (.iconst 0, 1) := by decide +kernel
theorem dX8_lay_170 : decode cX8_lay 170 = .ok (.istore 4, 2) := by decide +kernel
theorem dX8_lay_172 : decode cX8_lay 172 = .ok (.iload 4, 2) := by decide +kernel
theorem dX8_lay_174 : decode cX8_lay 174 = .ok (.bipush 7, 2) := by decide +kernel
theorem dX8_lay_176 : decode cX8_lay 176 = .ok (.if_icmp .ge 25, 3) := by decide +kernel
theorem dX8_lay_179 : decode cX8_lay 179 = .ok (.aload_n 0, 1) := by decide +kernel
theorem dX8_lay_180 : decode cX8_lay 180 = .ok (.getfield 19, 3) := by decide +kernel
theorem dX8_lay_183 : decode cX8_lay 183 = .ok (.iload_n 3, 1) := by decide +kernel
theorem dX8_lay_184 : decode cX8_lay 184 = .ok (.aaload, 1) := by decide +kernel
theorem dX8_lay_185 : decode cX8_lay 185 = .ok (.iload 4, 2) := by decide +kernel
theorem dX8_lay_187 : decode cX8_lay 187 = .ok (.aload_n 0, 1) := by decide +kernel
theorem dX8_lay_188 : decode cX8_lay 188 = .ok (.iload_n 3, 1) := by decide +kernel
theorem dX8_lay_189 : decode cX8_lay 189 = .ok (.iload 4, 2) := by decide +kernel
theorem dX8_lay_191 : decode cX8_lay 191 = .ok (.invokevirtual 52, 3) := by decide +kernel
theorem dX8_lay_194 : decode cX8_lay 194 = .ok (.iastore, 1) := by decide +kernel
theorem dX8_lay_195 : decode cX8_lay 195 = .ok (.iinc 4 1, 3) := by decide +kernel
theorem dX8_lay_198 : decode cX8_lay 198 = .ok (.goto (-26), 3) := by decide +kernel
theorem dX8_lay_201 : decode cX8_lay 201 = .ok (.iinc 3 1, 3) := by decide +kernel
theorem dX8_lay_204 : decode cX8_lay 204 = .ok (.goto (-41), 3) := by decide +kernel
theorem dX8_lay_207 : decode cX8_lay 207 = .ok (.return_, 1) := by decide +kernel
theorem dX8_distance_0 : decode cX8_distance 0 = .ok (.iload_n 1, 1) := by decide +kernel
theorem dX8_distance_1 : decode cX8_distance 1 = .ok (.ifCond .lt 23, 3) := by decide +kernel
theorem dX8_distance_4 : decode cX8_distance 4 = .ok (.iload_n 1, 1) := by decide +kernel
theorem dX8_distance_5 : decode cX8_distance 5 = .ok (.bipush 7, 2) := by decide +kernel
theorem dX8_distance_7 : decode cX8_distance 7 = .ok (.if_icmp .ge 17, 3) := by decide +kernel
theorem dX8_distance_10 : decode cX8_distance 10 = .ok (.iload_n 2, 1) := by decide +kernel
theorem dX8_distance_11 : decode cX8_distance 11 = .ok (.ifCond .lt 13, 3) := by decide +kernel
theorem dX8_distance_14 : decode cX8_distance 14 = .ok (.iload_n 2, 1) := by decide +kernel
theorem dX8_distance_15 : decode cX8_distance 15 = .ok (.bipush 7, 2) := by decide +kernel
theorem dX8_distance_17 : decode cX8_distance 17 = .ok (.if_icmp .ge 7, 3) := by decide +kernel
theorem dX8_distance_20 : decode cX8_distance 20 = .ok (.iconst 1, 1) := by decide +kernel
theorem dX8_distance_21 : decode cX8_distance 21 = .ok (.goto 4, 3) := by decide +kernel
theorem dX8_distance_24 : decode cX8_distance 24 = .ok (.iconst 0, 1) := by decide +kernel
theorem dX8_distance_25 : decode cX8_distance 25 = .ok (.istore_n 3, 1) := by decide +kernel
theorem dX8_distance_26 : decode cX8_distance 26 = .ok (.iload_n 3, 1) := by decide +kernel
theorem dX8_distance_27 : decode cX8_distance 27 = .ok (.ifCond .eq 14, 3) := by decide +kernel
theorem dX8_distance_30 : decode cX8_distance 30 = .ok (.aload_n 0, 1) := by decide +kernel
theorem dX8_distance_31 : decode cX8_distance 31 = .ok (.getfield 11, 3) := by decide +kernel
theorem dX8_distance_34 : decode cX8_distance 34 = .ok (.iload_n 1, 1) := by decide +kernel
theorem dX8_distance_35 : decode cX8_distance 35 = .ok (.aaload, 1) := by decide +kernel
theorem dX8_distance_36 : decode cX8_distance 36 = .ok (.iload_n 2, 1) := by decide +kernel
theorem dX8_distance_37 : decode cX8_distance 37 = .ok (.iaload, 1) := by decide +kernel
theorem dX8_distance_38 : decode cX8_distance 38 = .ok (.goto 6, 3) := by decide +kernel
theorem dX8_distance_41 : decode cX8_distance 41 = .ok (.sipush 1000, 3) := by decide +kernel
theorem dX8_distance_44 : decode cX8_distance 44 = .ok (.ireturn, 1) := by decide +kernel
theorem dX8_waysAt_0 : decode cX8_waysAt 0 = .ok (.iload_n 1, 1) := by decide +kernel
theorem dX8_waysAt_1 : decode cX8_waysAt 1 = .ok (.bipush 7, 2) := by decide +kernel
theorem dX8_waysAt_3 : decode cX8_waysAt 3 = .ok (.invokestatic 38, 3) := by decide +kernel
theorem dX8_waysAt_6 : decode cX8_waysAt 6 = .ok (.ifCond .eq 15, 3) := by decide +kernel
theorem dX8_waysAt_9 : decode cX8_waysAt 9 = .ok (.aload_n 0, 1) := by decide +kernel
theorem dX8_waysAt_10 : decode cX8_waysAt 10 = .ok (.getfield 22, 3) := by decide +kernel
theorem dX8_waysAt_13 : decode cX8_waysAt 13 = .ok (.iload_n 1, 1) := by decide +kernel
theorem dX8_waysAt_14 : decode cX8_waysAt 14 = .ok (.iaload, 1) := by decide +kernel
theorem dX8_waysAt_15 : decode cX8_waysAt 15 = .ok (.invokestatic 56, 3) := by decide +kernel
theorem dX8_waysAt_18 : decode cX8_waysAt 18 = .ok (.goto 4, 3) := by decide +kernel
theorem dX8_waysAt_21 : decode cX8_waysAt 21 = .ok (.iconst 0, 1) := by decide +kernel
theorem dX8_waysAt_22 : decode cX8_waysAt 22 = .ok (.ireturn, 1) := by decide +kernel
theorem dX8_daysOfWay_0 : decode cX8_daysOfWay 0 = .ok (.iload_n 1, 1) := by decide +kernel
theorem dX8_daysOfWay_1 : decode cX8_daysOfWay 1 = .ok (.ifCond .lt 23, 3) := by decide +kernel
theorem dX8_daysOfWay_4 : decode cX8_daysOfWay 4 = .ok (.iload_n 1, 1) := by decide +kernel
theorem dX8_daysOfWay_5 : decode cX8_daysOfWay 5 = .ok (.bipush 7, 2) := by decide +kernel
theorem dX8_daysOfWay_7 : decode cX8_daysOfWay 7 = .ok (.if_icmp .ge 17, 3) := by decide +kernel
theorem dX8_daysOfWay_10 : decode cX8_daysOfWay 10 = .ok (.iload_n 2, 1) := by decide +kernel
theorem dX8_daysOfWay_11 : decode cX8_daysOfWay 11 = .ok (.ifCond .lt 13, 3) := by decide +kernel
theorem dX8_daysOfWay_14 : decode cX8_daysOfWay 14 = .ok (.iload_n 2, 1) := by decide +kernel
theorem dX8_daysOfWay_15 : decode cX8_daysOfWay 15 = .ok (.bipush 7, 2) := by decide +kernel
theorem dX8_daysOfWay_17 : decode cX8_daysOfWay 17 = .ok (.if_icmp .ge 7, 3) := by decide +kernel
theorem dX8_daysOfWay_20 : decode cX8_daysOfWay 20 = .ok (.iconst 1, 1) := by decide +kernel
theorem dX8_daysOfWay_21 : decode cX8_daysOfWay 21 = .ok (.goto 4, 3) := by decide +kernel
theorem dX8_daysOfWay_24 : decode cX8_daysOfWay 24 = .ok (.iconst 0, 1) := by decide +kernel
theorem dX8_daysOfWay_25 : decode cX8_daysOfWay 25 = .ok (.istore_n 3, 1) := by decide +kernel
theorem dX8_daysOfWay_26 : decode cX8_daysOfWay 26 = .ok (.iload_n 3, 1) := by decide +kernel
theorem dX8_daysOfWay_27 : decode cX8_daysOfWay 27 = .ok (.ifCond .eq 14, 3) := by decide +kernel
theorem dX8_daysOfWay_30 : decode cX8_daysOfWay 30 = .ok (.aload_n 0, 1) := by decide +kernel
theorem dX8_daysOfWay_31 : decode cX8_daysOfWay 31 = .ok (.getfield 16, 3) := by decide +kernel
theorem dX8_daysOfWay_34 : decode cX8_daysOfWay 34 = .ok (.iload_n 1, 1) := by decide +kernel
theorem dX8_daysOfWay_35 : decode cX8_daysOfWay 35 = .ok (.aaload, 1) := by decide +kernel
theorem dX8_daysOfWay_36 : decode cX8_daysOfWay 36 = .ok (.iload_n 2, 1) := by decide +kernel
theorem dX8_daysOfWay_37 : decode cX8_daysOfWay 37 = .ok (.iaload, 1) := by decide +kernel
theorem dX8_daysOfWay_38 : decode cX8_daysOfWay 38 = .ok (.goto 4, 3) := by decide +kernel
theorem dX8_daysOfWay_41 : decode cX8_daysOfWay 41 = .ok (.iconst 0, 1) := by decide +kernel
theorem dX8_daysOfWay_42 : decode cX8_daysOfWay 42 = .ok (.ireturn, 1) := by decide +kernel
theorem dX8_nextOf_0 : decode cX8_nextOf 0 = .ok (.iload_n 1, 1) := by decide +kernel
theorem dX8_nextOf_1 : decode cX8_nextOf 1 = .ok (.ifCond .lt 23, 3) := by decide +kernel
theorem dX8_nextOf_4 : decode cX8_nextOf 4 = .ok (.iload_n 1, 1) := by decide +kernel
theorem dX8_nextOf_5 : decode cX8_nextOf 5 = .ok (.bipush 7, 2) := by decide +kernel
theorem dX8_nextOf_7 : decode cX8_nextOf 7 = .ok (.if_icmp .ge 17, 3) := by decide +kernel
theorem dX8_nextOf_10 : decode cX8_nextOf 10 = .ok (.iload_n 2, 1) := by decide +kernel
theorem dX8_nextOf_11 : decode cX8_nextOf 11 = .ok (.ifCond .lt 13, 3) := by decide +kernel
theorem dX8_nextOf_14 : decode cX8_nextOf 14 = .ok (.iload_n 2, 1) := by decide +kernel
theorem dX8_nextOf_15 : decode cX8_nextOf 15 = .ok (.bipush 7, 2) := by decide +kernel
theorem dX8_nextOf_17 : decode cX8_nextOf 17 = .ok (.if_icmp .ge 7, 3) := by decide +kernel
theorem dX8_nextOf_20 : decode cX8_nextOf 20 = .ok (.iconst 1, 1) := by decide +kernel
theorem dX8_nextOf_21 : decode cX8_nextOf 21 = .ok (.goto 4, 3) := by decide +kernel
theorem dX8_nextOf_24 : decode cX8_nextOf 24 = .ok (.iconst 0, 1) := by decide +kernel
theorem dX8_nextOf_25 : decode cX8_nextOf 25 = .ok (.istore_n 3, 1) := by decide +kernel
theorem dX8_nextOf_26 : decode cX8_nextOf 26 = .ok (.iload_n 3, 1) := by decide +kernel
theorem dX8_nextOf_27 : decode cX8_nextOf 27 = .ok (.ifCond .eq 14, 3) := by decide +kernel
theorem dX8_nextOf_30 : decode cX8_nextOf 30 = .ok (.aload_n 0, 1) := by decide +kernel
theorem dX8_nextOf_31 : decode cX8_nextOf 31 = .ok (.getfield 19, 3) := by decide +kernel
theorem dX8_nextOf_34 : decode cX8_nextOf 34 = .ok (.iload_n 1, 1) := by decide +kernel
theorem dX8_nextOf_35 : decode cX8_nextOf 35 = .ok (.aaload, 1) := by decide +kernel
theorem dX8_nextOf_36 : decode cX8_nextOf 36 = .ok (.iload_n 2, 1) := by decide +kernel
theorem dX8_nextOf_37 : decode cX8_nextOf 37 = .ok (.iaload, 1) := by decide +kernel
theorem dX8_nextOf_38 : decode cX8_nextOf 38 = .ok (.goto 4, 3) := by decide +kernel
theorem dX8_nextOf_41 : decode cX8_nextOf 41 = .ok (.iconst (-1), 1) := by decide +kernel
theorem dX8_nextOf_42 : decode cX8_nextOf 42 = .ok (.ireturn, 1) := by decide +kernel
theorem dX8_passed_0 : decode cX8_passed 0 = .ok (.iconst 0, 1) := by decide +kernel
theorem dX8_passed_1 : decode cX8_passed 1 = .ok (.istore_n 3, 1) := by decide +kernel
theorem dX8_passed_2 : decode cX8_passed 2 = .ok (.iload_n 1, 1) := by decide +kernel
theorem dX8_passed_3 : decode cX8_passed 3 = .ok (.istore 4, 2) := by decide +kernel
theorem dX8_passed_5 : decode cX8_passed 5 = .ok (.iconst 0, 1) := by decide +kernel
theorem dX8_passed_6 : decode cX8_passed 6 = .ok (.istore 5, 2) := by decide +kernel
theorem dX8_passed_8 : decode cX8_passed 8 = .ok (.iload 5, 2) := by decide +kernel
theorem dX8_passed_10 : decode cX8_passed 10 = .ok (.bipush 7, 2) := by decide +kernel
theorem dX8_passed_12 : decode cX8_passed 12 = .ok (.if_icmp .ge 31, 3) := by decide +kernel
theorem dX8_passed_15 : decode cX8_passed 15 = .ok (.iload 4, 2) := by decide +kernel
theorem dX8_passed_17 : decode cX8_passed 17 = .ok (.iconst (-1), 1) := by decide +kernel
theorem dX8_passed_18 : decode cX8_passed 18 = .ok (.if_icmp .eq 25, 3) := by decide +kernel
theorem dX8_passed_21 : decode cX8_passed 21 = .ok (.iload_n 3, 1) := by decide +kernel
theorem dX8_passed_22 : decode cX8_passed 22 = .ok (.iconst 1, 1) := by decide +kernel
theorem dX8_passed_23 : decode cX8_passed 23 = .ok (.iload 4, 2) := by decide +kernel
theorem dX8_passed_25 : decode cX8_passed 25 = .ok (.ishl, 1) := by decide +kernel
theorem dX8_passed_26 : decode cX8_passed 26 = .ok (.ior, 1) := by decide +kernel
theorem dX8_passed_27 : decode cX8_passed 27 = .ok (.istore_n 3, 1) := by decide +kernel
theorem dX8_passed_28 : decode cX8_passed 28 = .ok (.aload_n 0, 1) := by decide +kernel
theorem dX8_passed_29 : decode cX8_passed 29 = .ok (.iload 4, 2) := by decide +kernel
theorem dX8_passed_31 : decode cX8_passed 31 = .ok (.iload_n 2, 1) := by decide +kernel
theorem dX8_passed_32 : decode cX8_passed 32 = .ok (.invokevirtual 62, 3) := by decide +kernel
theorem dX8_passed_35 : decode cX8_passed 35 = .ok (.istore 4, 2) := by decide +kernel
theorem dX8_passed_37 : decode cX8_passed 37 = .ok (.iinc 5 1, 3) := by decide +kernel
theorem dX8_passed_40 : decode cX8_passed 40 = .ok (.goto (-32), 3) := by decide +kernel
theorem dX8_passed_43 : decode cX8_passed 43 = .ok (.iload_n 3, 1) := by decide +kernel
theorem dX8_passed_44 : decode cX8_passed 44 = .ok (.ireturn, 1) := by decide +kernel
theorem dX8_nearest_0 : decode cX8_nearest 0 = .ok (.sipush 1000, 3) := by decide +kernel
theorem dX8_nearest_3 : decode cX8_nearest 3 = .ok (.istore 4, 2) := by decide +kernel
theorem dX8_nearest_5 : decode cX8_nearest 5 = .ok (.iload_n 1, 1) := by decide +kernel
theorem dX8_nearest_6 : decode cX8_nearest 6 = .ok (.istore 5, 2) := by decide +kernel
theorem dX8_nearest_8 : decode cX8_nearest 8 = .ok (.iconst 0, 1) := by decide +kernel
theorem dX8_nearest_9 : decode cX8_nearest 9 = .ok (.istore 6, 2) := by decide +kernel
theorem dX8_nearest_11 : decode cX8_nearest 11 = .ok (.iload 6, 2) := by decide +kernel
theorem dX8_nearest_13 : decode cX8_nearest 13 = .ok (.bipush 7, 2) := by decide +kernel
theorem dX8_nearest_15 : decode cX8_nearest 15 = .ok (.if_icmp .ge 38, 3) := by decide +kernel
theorem dX8_nearest_18 : decode cX8_nearest 18 = .ok (.iload 5, 2) := by decide +kernel
theorem dX8_nearest_20 : decode cX8_nearest 20 = .ok (.iconst (-1), 1) := by decide +kernel
theorem dX8_nearest_21 : decode cX8_nearest 21 = .ok (.if_icmp .eq 32, 3) := by decide +kernel
theorem dX8_nearest_24 : decode cX8_nearest 24 = .ok (.iload 4, 2) := by decide +kernel
theorem dX8_nearest_26 : decode cX8_nearest 26 = .ok (.aload_n 0, 1) := by decide +kernel
theorem dX8_nearest_27 : decode cX8_nearest 27 = .ok (.iload 5, 2) := by decide +kernel
theorem dX8_nearest_29 : decode cX8_nearest 29 = .ok (.iload_n 3, 1) := by decide +kernel
theorem dX8_nearest_30 : decode cX8_nearest 30 = .ok (.invokevirtual 65, 3) := by decide +kernel
theorem dX8_nearest_33 : decode cX8_nearest 33 = .ok (.invokestatic 68, 3) := by decide +kernel
theorem dX8_nearest_36 : decode cX8_nearest 36 = .ok (.istore 4, 2) := by decide +kernel
theorem dX8_nearest_38 : decode cX8_nearest 38 = .ok (.aload_n 0, 1) := by decide +kernel
theorem dX8_nearest_39 : decode cX8_nearest 39 = .ok (.iload 5, 2) := by decide +kernel
theorem dX8_nearest_41 : decode cX8_nearest 41 = .ok (.iload_n 2, 1) := by decide +kernel
theorem dX8_nearest_42 : decode cX8_nearest 42 = .ok (.invokevirtual 62, 3) := by decide +kernel
theorem dX8_nearest_45 : decode cX8_nearest 45 = .ok (.istore 5, 2) := by decide +kernel
theorem dX8_nearest_47 : decode cX8_nearest 47 = .ok (.iinc 6 1, 3) := by decide +kernel
theorem dX8_nearest_50 : decode cX8_nearest 50 = .ok (.goto (-39), 3) := by decide +kernel
theorem dX8_nearest_53 : decode cX8_nearest 53 = .ok (.iload 4, 2) := by decide +kernel
theorem dX8_nearest_55 : decode cX8_nearest 55 = .ok (.ireturn, 1) := by decide +kernel
theorem dX8_layWay_0 : decode cX8_layWay 0 = .ok (.aload_n 0, 1) := by decide +kernel
theorem dX8_layWay_1 : decode cX8_layWay 1 = .ok (.getfield 11, 3) := by decide +kernel
theorem dX8_layWay_4 : decode cX8_layWay 4 = .ok (.iload_n 1, 1) := by decide +kernel
theorem dX8_layWay_5 : decode cX8_layWay 5 = .ok (.aaload, 1) := by decide +kernel
theorem dX8_layWay_6 : decode cX8_layWay 6 = .ok (.iload_n 2, 1) := by decide +kernel
theorem dX8_layWay_7 : decode cX8_layWay 7 = .ok (.iload_n 3, 1) := by decide +kernel
theorem dX8_layWay_8 : decode cX8_layWay 8 = .ok (.iastore, 1) := by decide +kernel
theorem dX8_layWay_9 : decode cX8_layWay 9 = .ok (.aload_n 0, 1) := by decide +kernel
theorem dX8_layWay_10 : decode cX8_layWay 10 = .ok (.getfield 16, 3) := by decide +kernel
theorem dX8_layWay_13 : decode cX8_layWay 13 = .ok (.iload_n 1, 1) := by decide +kernel
theorem dX8_layWay_14 : decode cX8_layWay 14 = .ok (.aaload, 1) := by decide +kernel
theorem dX8_layWay_15 : decode cX8_layWay 15 = .ok (.iload_n 2, 1) := by decide +kernel
theorem dX8_layWay_16 : decode cX8_layWay 16 = .ok (.iload_n 3, 1) := by decide +kernel
theorem dX8_layWay_17 : decode cX8_layWay 17 = .ok (.iastore, 1) := by decide +kernel
theorem dX8_layWay_18 : decode cX8_layWay 18 = .ok (.aload_n 0, 1) := by decide +kernel
theorem dX8_layWay_19 : decode cX8_layWay 19 = .ok (.getfield 22, 3) := by decide +kernel
theorem dX8_layWay_22 : decode cX8_layWay 22 = .ok (.iload_n 1, 1) := by decide +kernel
theorem dX8_layWay_23 : decode cX8_layWay 23 = .ok (.dup2, 1) := by decide +kernel
theorem dX8_layWay_24 : decode cX8_layWay 24 = .ok (.iaload, 1) := by decide +kernel
theorem dX8_layWay_25 : decode cX8_layWay 25 = .ok (.iconst 1, 1) := by decide +kernel
theorem dX8_layWay_26 : decode cX8_layWay 26 = .ok (.iload_n 2, 1) := by decide +kernel
theorem dX8_layWay_27 : decode cX8_layWay 27 = .ok (.ishl, 1) := by decide +kernel
theorem dX8_layWay_28 : decode cX8_layWay 28 = .ok (.ior, 1) := by decide +kernel
theorem dX8_layWay_29 : decode cX8_layWay 29 = .ok (.iastore, 1) := by decide +kernel
theorem dX8_layWay_30 : decode cX8_layWay 30 = .ok (.return_, 1) := by decide +kernel
theorem dX8_shorten_0 : decode cX8_shorten 0 = .ok (.iconst 0, 1) := by decide +kernel
theorem dX8_shorten_1 : decode cX8_shorten 1 = .ok (.istore_n 1, 1) := by decide +kernel
theorem dX8_shorten_2 : decode cX8_shorten 2 = .ok (.iload_n 1, 1) := by decide +kernel
theorem dX8_shorten_3 : decode cX8_shorten 3 = .ok (.bipush 7, 2) := by decide +kernel
theorem dX8_shorten_5 : decode cX8_shorten 5 = .ok (.if_icmp .ge 73, 3) := by decide +kernel
theorem dX8_shorten_8 : decode cX8_shorten 8 = .ok (.iconst 0, 1) := by decide +kernel
theorem dX8_shorten_9 : decode cX8_shorten 9 = .ok (.istore_n 2, 1) := by decide +kernel
theorem dX8_shorten_10 : decode cX8_shorten 10 = .ok (.iload_n 2, 1) := by decide +kernel
theorem dX8_shorten_11 : decode cX8_shorten 11 = .ok (.bipush 7, 2) := by decide +kernel
theorem dX8_shorten_13 : decode cX8_shorten 13 = .ok (.if_icmp .ge 59, 3) := by decide +kernel
theorem dX8_shorten_16 : decode cX8_shorten 16 = .ok (.iconst 0, 1) := by decide +kernel
theorem dX8_shorten_17 : decode cX8_shorten 17 = .ok (.istore_n 3, 1) := by decide +kernel
theorem dX8_shorten_18 : decode cX8_shorten 18 = .ok (.iload_n 3, 1) := by decide +kernel
theorem dX8_shorten_19 : decode cX8_shorten 19 = .ok (.bipush 7, 2) := by decide +kernel
theorem dX8_shorten_21 : decode cX8_shorten 21 = .ok (.if_icmp .ge 45, 3) := by decide +kernel
theorem dX8_shorten_24 : decode cX8_shorten 24 = .ok (.aload_n 0, 1) := by decide +kernel
theorem dX8_shorten_25 : decode cX8_shorten 25 = .ok (.getfield 11, 3) := by decide +kernel
theorem dX8_shorten_28 : decode cX8_shorten 28 = .ok (.iload_n 2, 1) := by decide +kernel
theorem dX8_shorten_29 : decode cX8_shorten 29 = .ok (.aaload, 1) := by decide +kernel
theorem dX8_shorten_30 : decode cX8_shorten 30 = .ok (.iload_n 3, 1) := by decide +kernel
theorem dX8_shorten_31 : decode cX8_shorten 31 = .ok (.aload_n 0, 1) := by decide +kernel
theorem dX8_shorten_32 : decode cX8_shorten 32 = .ok (.getfield 11, 3) := by decide +kernel
theorem dX8_shorten_35 : decode cX8_shorten 35 = .ok (.iload_n 2, 1) := by decide +kernel
theorem dX8_shorten_36 : decode cX8_shorten 36 = .ok (.aaload, 1) := by decide +kernel
theorem dX8_shorten_37 : decode cX8_shorten 37 = .ok (.iload_n 3, 1) := by decide +kernel
theorem dX8_shorten_38 : decode cX8_shorten 38 = .ok (.iaload, 1) := by decide +kernel
theorem dX8_shorten_39 : decode cX8_shorten 39 = .ok (.aload_n 0, 1) := by decide +kernel
theorem dX8_shorten_40 : decode cX8_shorten 40 = .ok (.getfield 11, 3) := by decide +kernel
theorem dX8_shorten_43 : decode cX8_shorten 43 = .ok (.iload_n 2, 1) := by decide +kernel
theorem dX8_shorten_44 : decode cX8_shorten 44 = .ok (.aaload, 1) := by decide +kernel
theorem dX8_shorten_45 : decode cX8_shorten 45 = .ok (.iload_n 1, 1) := by decide +kernel
theorem dX8_shorten_46 : decode cX8_shorten 46 = .ok (.iaload, 1) := by decide +kernel
theorem dX8_shorten_47 : decode cX8_shorten 47 = .ok (.aload_n 0, 1) := by decide +kernel
theorem dX8_shorten_48 : decode cX8_shorten 48 = .ok (.getfield 11, 3) := by decide +kernel
theorem dX8_shorten_51 : decode cX8_shorten 51 = .ok (.iload_n 1, 1) := by decide +kernel
theorem dX8_shorten_52 : decode cX8_shorten 52 = .ok (.aaload, 1) := by decide +kernel
theorem dX8_shorten_53 : decode cX8_shorten 53 = .ok (.iload_n 3, 1) := by decide +kernel
theorem dX8_shorten_54 : decode cX8_shorten 54 = .ok (.iaload, 1) := by decide +kernel
theorem dX8_shorten_55 : decode cX8_shorten 55 = .ok (.iadd, 1) := by decide +kernel
theorem dX8_shorten_56 : decode cX8_shorten 56 = .ok (.invokestatic 68, 3) := by decide +kernel
theorem dX8_shorten_59 : decode cX8_shorten 59 = .ok (.iastore, 1) := by decide +kernel
theorem dX8_shorten_60 : decode cX8_shorten 60 = .ok (.iinc 3 1, 3) := by decide +kernel
theorem dX8_shorten_63 : decode cX8_shorten 63 = .ok (.goto (-45), 3) := by decide +kernel
theorem dX8_shorten_66 : decode cX8_shorten 66 = .ok (.iinc 2 1, 3) := by decide +kernel
theorem dX8_shorten_69 : decode cX8_shorten 69 = .ok (.goto (-59), 3) := by decide +kernel
theorem dX8_shorten_72 : decode cX8_shorten 72 = .ok (.iinc 1 1, 3) := by decide +kernel
theorem dX8_shorten_75 : decode cX8_shorten 75 = .ok (.goto (-73), 3) := by decide +kernel
theorem dX8_shorten_78 : decode cX8_shorten 78 = .ok (.return_, 1) := by decide +kernel
theorem dX8_findNext_0 : decode cX8_findNext 0 = .ok (.iload_n 1, 1) := by decide +kernel
theorem dX8_findNext_1 : decode cX8_findNext 1 = .ok (.iload_n 2, 1) := by decide +kernel
theorem dX8_findNext_2 : decode cX8_findNext 2 = .ok (.if_icmp .eq 17, 3) := by decide +kernel
theorem dX8_findNext_5 : decode cX8_findNext 5 = .ok (.aload_n 0, 1) := by decide +kernel
theorem dX8_findNext_6 : decode cX8_findNext 6 = .ok (.getfield 11, 3) := by decide +kernel
theorem dX8_findNext_9 : decode cX8_findNext 9 = .ok (.iload_n 1, 1) := by decide +kernel
theorem dX8_findNext_10 : decode cX8_findNext 10 = .ok (.aaload, 1) := by decide +kernel
theorem dX8_findNext_11 : decode cX8_findNext 11 = .ok (.iload_n 2, 1) := by decide +kernel
theorem dX8_findNext_12 : decode cX8_findNext 12 = .ok (.iaload, 1) := by decide +kernel
theorem dX8_findNext_13 : decode cX8_findNext 13 = .ok (.sipush 1000, 3) := by decide +kernel
theorem dX8_findNext_16 : decode cX8_findNext 16 = .ok (.if_icmp .lt 5, 3) := by decide +kernel
theorem dX8_findNext_19 : decode cX8_findNext 19 = .ok (.iconst (-1), 1) := by decide +kernel
theorem dX8_findNext_20 : decode cX8_findNext 20 = .ok (.ireturn, 1) := by decide +kernel
theorem dX8_findNext_21 : decode cX8_findNext 21 = .ok (.iconst (-1), 1) := by decide +kernel
theorem dX8_findNext_22 : decode cX8_findNext 22 = .ok (.istore_n 3, 1) := by decide +kernel
theorem dX8_findNext_23 : decode cX8_findNext 23 = .ok (.sipush 1000, 3) := by decide +kernel
theorem dX8_findNext_26 : decode cX8_findNext 26 = .ok (.istore 4, 2) := by decide +kernel
theorem dX8_findNext_28 : decode cX8_findNext 28 = .ok (.iconst 0, 1) := by decide +kernel
theorem dX8_findNext_29 : decode cX8_findNext 29 = .ok (.istore 5, 2) := by decide +kernel
theorem dX8_findNext_31 : decode cX8_findNext 31 = .ok (.iload 5, 2) := by decide +kernel
theorem dX8_findNext_33 : decode cX8_findNext 33 = .ok (.bipush 7, 2) := by decide +kernel
theorem dX8_findNext_35 : decode cX8_findNext 35 = .ok (.if_icmp .ge 59, 3) := by decide +kernel
theorem dX8_findNext_38 : decode cX8_findNext 38 = .ok (.aload_n 0, 1) := by decide +kernel
theorem dX8_findNext_39 : decode cX8_findNext 39 = .ok (.getfield 16, 3) := by decide +kernel
theorem dX8_findNext_42 : decode cX8_findNext 42 = .ok (.iload_n 1, 1) := by decide +kernel
theorem dX8_findNext_43 : decode cX8_findNext 43 = .ok (.aaload, 1) := by decide +kernel
theorem dX8_findNext_44 : decode cX8_findNext 44 = .ok (.iload 5, 2) := by decide +kernel
theorem dX8_findNext_46 : decode cX8_findNext 46 = .ok (.iaload, 1) := by decide +kernel
theorem dX8_findNext_47 : decode cX8_findNext 47 = .ok (.aload_n 0, 1) := by decide +kernel
theorem dX8_findNext_48 : decode cX8_findNext 48 = .ok (.getfield 11, 3) := by decide +kernel
theorem dX8_findNext_51 : decode cX8_findNext 51 = .ok (.iload 5, 2) := by decide +kernel
theorem dX8_findNext_53 : decode cX8_findNext 53 = .ok (.aaload, 1) := by decide +kernel
theorem dX8_findNext_54 : decode cX8_findNext 54 = .ok (.iload_n 2, 1) := by decide +kernel
theorem dX8_findNext_55 : decode cX8_findNext 55 = .ok (.iaload, 1) := by decide +kernel
theorem dX8_findNext_56 : decode cX8_findNext 56 = .ok (.iadd, 1) := by decide +kernel
theorem dX8_findNext_57 : decode cX8_findNext 57 = .ok (.istore 6, 2) := by decide +kernel
theorem dX8_findNext_59 : decode cX8_findNext 59 = .ok (.aload_n 0, 1) := by decide +kernel
theorem dX8_findNext_60 : decode cX8_findNext 60 = .ok (.getfield 22, 3) := by decide +kernel
theorem dX8_findNext_63 : decode cX8_findNext 63 = .ok (.iload_n 1, 1) := by decide +kernel
theorem dX8_findNext_64 : decode cX8_findNext 64 = .ok (.iaload, 1) := by decide +kernel
theorem dX8_findNext_65 : decode cX8_findNext 65 = .ok (.iload 5, 2) := by decide +kernel
theorem dX8_findNext_67 : decode cX8_findNext 67 = .ok (.ishr, 1) := by decide +kernel
theorem dX8_findNext_68 : decode cX8_findNext 68 = .ok (.iconst 1, 1) := by decide +kernel
theorem dX8_findNext_69 : decode cX8_findNext 69 = .ok (.iand, 1) := by decide +kernel
theorem dX8_findNext_70 : decode cX8_findNext 70 = .ok (.iconst 1, 1) := by decide +kernel
theorem dX8_findNext_71 : decode cX8_findNext 71 = .ok (.if_icmp .ne 17, 3) := by decide +kernel
theorem dX8_findNext_74 : decode cX8_findNext 74 = .ok (.iload 6, 2) := by decide +kernel
theorem dX8_findNext_76 : decode cX8_findNext 76 = .ok (.iload 4, 2) := by decide +kernel
theorem dX8_findNext_78 : decode cX8_findNext 78 = .ok (.if_icmp .ge 10, 3) := by decide +kernel
theorem dX8_findNext_81 : decode cX8_findNext 81 = .ok (.iload 5, 2) := by decide +kernel
theorem dX8_findNext_83 : decode cX8_findNext 83 = .ok (.istore_n 3, 1) := by decide +kernel
theorem dX8_findNext_84 : decode cX8_findNext 84 = .ok (.iload 6, 2) := by decide +kernel
theorem dX8_findNext_86 : decode cX8_findNext 86 = .ok (.istore 4, 2) := by decide +kernel
theorem dX8_findNext_88 : decode cX8_findNext 88 = .ok (.iinc 5 1, 3) := by decide +kernel
theorem dX8_findNext_91 : decode cX8_findNext 91 = .ok (.goto (-60), 3) := by decide +kernel
theorem dX8_findNext_94 : decode cX8_findNext 94 = .ok (.iload_n 3, 1) := by decide +kernel
theorem dX8_findNext_95 : decode cX8_findNext 95 = .ok (.ireturn, 1) := by decide +kernel
theorem dX9_init_0 : decode cX9_init 0 = .ok (.aload_n 0, 1) := by decide +kernel
theorem dX9_init_1 : decode cX9_init 1 = .ok (.invokespecial 3, 3) := by decide +kernel
theorem dX9_init_4 : decode cX9_init 4 = .ok (.aload_n 0, 1) := by decide +kernel
theorem dX9_init_5 : decode cX9_init 5 = .ok (.bipush 6, 2) := by decide +kernel
theorem dX9_init_7 : decode cX9_init 7 = .ok (.newarray .int, 2) := by decide +kernel
theorem dX9_init_9 : decode cX9_init 9 = .ok (.putfield 9, 3) := by decide +kernel
theorem dX9_init_12 : decode cX9_init 12 = .ok (.aload_n 0, 1) := by decide +kernel
theorem dX9_init_13 : decode cX9_init 13 = .ok (.bipush 6, 2) := by decide +kernel
theorem dX9_init_15 : decode cX9_init 15 = .ok (.newarray .int, 2) := by decide +kernel
theorem dX9_init_17 : decode cX9_init 17 = .ok (.putfield 15, 3) := by decide +kernel
theorem dX9_init_20 : decode cX9_init 20 = .ok (.aload_n 0, 1) := by decide +kernel
theorem dX9_init_21 : decode cX9_init 21 = .ok (.bipush 6, 2) := by decide +kernel
theorem dX9_init_23 : decode cX9_init 23 = .ok (.newarray .int, 2) := by decide +kernel
theorem dX9_init_25 : decode cX9_init 25 = .ok (.putfield 18, 3) := by decide +kernel
theorem dX9_init_28 : decode cX9_init 28 = .ok (.aload_n 0, 1) := by decide +kernel
theorem dX9_init_29 : decode cX9_init 29 = .ok (.bipush 6, 2) := by decide +kernel
theorem dX9_init_31 : decode cX9_init 31 = .ok (.newarray .int, 2) := by decide +kernel
theorem dX9_init_33 : decode cX9_init 33 = .ok (.putfield 21, 3) := by decide +kernel
theorem dX9_init_36 : decode cX9_init 36 = .ok (.aload_n 0, 1) := by decide +kernel
theorem dX9_init_37 : decode cX9_init 37 = .ok (.bipush 10, 2) := by decide +kernel
theorem dX9_init_39 : decode cX9_init 39 = .ok (.newarray .int, 2) := by decide +kernel
theorem dX9_init_41 : decode cX9_init 41 = .ok (.putfield 24, 3) := by decide +kernel
theorem dX9_init_44 : decode cX9_init 44 = .ok (.aload_n 0, 1) := by decide +kernel
theorem dX9_init_45 : decode cX9_init 45 = .ok (.bipush 10, 2) := by decide +kernel
theorem dX9_init_47 : decode cX9_init 47 = .ok (.newarray .int, 2) := by decide +kernel
theorem dX9_init_49 : decode cX9_init 49 = .ok (.putfield 27, 3) := by decide +kernel
theorem dX9_init_52 : decode cX9_init 52 = .ok (.aload_n 0, 1) := by decide +kernel
theorem dX9_init_53 : decode cX9_init 53 = .ok (.bipush 10, 2) := by decide +kernel
theorem dX9_init_55 : decode cX9_init 55 = .ok (.newarray .int, 2) := by decide +kernel
theorem dX9_init_57 : decode cX9_init 57 = .ok (.putfield 30, 3) := by decide +kernel
theorem dX9_init_60 : decode cX9_init 60 = .ok (.aload_n 0, 1) := by decide +kernel
theorem dX9_init_61 : decode cX9_init 61 = .ok (.bipush 10, 2) := by decide +kernel
theorem dX9_init_63 : decode cX9_init 63 = .ok (.newarray .int, 2) := by decide +kernel
theorem dX9_init_65 : decode cX9_init 65 = .ok (.putfield 33, 3) := by decide +kernel
theorem dX9_init_68 : decode cX9_init 68 = .ok (.aload_n 0, 1) := by decide +kernel
theorem dX9_init_69 : decode cX9_init 69 = .ok (.bipush 10, 2) := by decide +kernel
theorem dX9_init_71 : decode cX9_init 71 = .ok (.newarray .int, 2) := by decide +kernel
theorem dX9_init_73 : decode cX9_init 73 = .ok (.putfield 36, 3) := by decide +kernel
theorem dX9_init_76 : decode cX9_init 76 = .ok (.aload_n 0, 1) := by decide +kernel
theorem dX9_init_77 : decode cX9_init 77 = .ok (.bipush 10, 2) := by decide +kernel
theorem dX9_init_79 : decode cX9_init 79 = .ok (.newarray .int, 2) := by decide +kernel
theorem dX9_init_81 : decode cX9_init 81 = .ok (.putfield 39, 3) := by decide +kernel
theorem dX9_init_84 : decode cX9_init 84 = .ok (.aload_n 0, 1) := by decide +kernel
theorem dX9_init_85 : decode cX9_init 85 = .ok (.bipush 10, 2) := by decide +kernel
theorem dX9_init_87 : decode cX9_init 87 = .ok (.newarray .int, 2) := by decide +kernel
theorem dX9_init_89 : decode cX9_init 89 = .ok (.putfield 42, 3) := by decide +kernel
theorem dX9_init_92 : decode cX9_init 92 = .ok (.return_, 1) := by decide +kernel
theorem dX9_begin_0 : decode cX9_begin 0 = .ok (.aload_n 0, 1) := by decide +kernel
theorem dX9_begin_1 : decode cX9_begin 1 = .ok (.iconst 0, 1) := by decide +kernel
theorem dX9_begin_2 : decode cX9_begin 2 = .ok (.putfield 45, 3) := by decide +kernel
theorem dX9_begin_5 : decode cX9_begin 5 = .ok (.aload_n 0, 1) := by decide +kernel
theorem dX9_begin_6 : decode cX9_begin 6 = .ok (.iconst 0, 1) := by decide +kernel
theorem dX9_begin_7 : decode cX9_begin 7 = .ok (.putfield 49, 3) := by decide +kernel
theorem dX9_begin_10 : decode cX9_begin 10 = .ok (.aload_n 0, 1) := by decide +kernel
theorem dX9_begin_11 : decode cX9_begin 11 = .ok (.iconst 0, 1) := by decide +kernel
theorem dX9_begin_12 : decode cX9_begin 12 = .ok (.putfield 52, 3) := by decide +kernel
theorem dX9_begin_15 : decode cX9_begin 15 = .ok (.iconst 0, 1) := by decide +kernel
theorem dX9_begin_16 : decode cX9_begin 16 = .ok (.istore_n 2, 1) := by decide +kernel
theorem dX9_begin_17 : decode cX9_begin 17 = .ok (.iload_n 2, 1) := by decide +kernel
theorem dX9_begin_18 : decode cX9_begin 18 = .ok (.bipush 6, 2) := by decide +kernel
theorem dX9_begin_20 : decode cX9_begin 20 = .ok (.if_icmp .ge 42, 3) := by decide +kernel
theorem dX9_begin_23 : decode cX9_begin 23 = .ok (.aload_n 0, 1) := by decide +kernel
theorem dX9_begin_24 : decode cX9_begin 24 = .ok (.getfield 9, 3) := by decide +kernel
theorem dX9_begin_27 : decode cX9_begin 27 = .ok (.iload_n 2, 1) := by decide +kernel
theorem dX9_begin_28 : decode cX9_begin 28 = .ok (.iconst 0, 1) := by decide +kernel
theorem dX9_begin_29 : decode cX9_begin 29 = .ok (.iastore, 1) := by decide +kernel
theorem dX9_begin_30 : decode cX9_begin 30 = .ok (.aload_n 0, 1) := by decide +kernel
theorem dX9_begin_31 : decode cX9_begin 31 = .ok (.getfield 15, 3) := by decide +kernel
theorem dX9_begin_34 : decode cX9_begin 34 = .ok (.iload_n 2, 1) := by decide +kernel
theorem dX9_begin_35 : decode cX9_begin 35 = .ok (.aload_n 1, 1) := by decide +kernel
theorem dX9_begin_36 : decode cX9_begin 36 = .ok (.getfield 55, 3) := by decide +kernel
theorem dX9_begin_39 : decode cX9_begin 39 = .ok (.iload_n 2, 1) := by decide +kernel
theorem dX9_begin_40 : decode cX9_begin 40 = .ok (.iaload, 1) := by decide +kernel
theorem dX9_begin_41 : decode cX9_begin 41 = .ok (.iastore, 1) := by decide +kernel
theorem dX9_begin_42 : decode cX9_begin 42 = .ok (.aload_n 0, 1) := by decide +kernel
theorem dX9_begin_43 : decode cX9_begin 43 = .ok (.getfield 18, 3) := by decide +kernel
theorem dX9_begin_46 : decode cX9_begin 46 = .ok (.iload_n 2, 1) := by decide +kernel
theorem dX9_begin_47 : decode cX9_begin 47 = .ok (.iconst (-1), 1) := by decide +kernel
theorem dX9_begin_48 : decode cX9_begin 48 = .ok (.iastore, 1) := by decide +kernel
theorem dX9_begin_49 : decode cX9_begin 49 = .ok (.aload_n 0, 1) := by decide +kernel
theorem dX9_begin_50 : decode cX9_begin 50 = .ok (.getfield 21, 3) := by decide +kernel
theorem dX9_begin_53 : decode cX9_begin 53 = .ok (.iload_n 2, 1) := by decide +kernel
theorem dX9_begin_54 : decode cX9_begin 54 = .ok (.iconst 0, 1) := by decide +kernel
theorem dX9_begin_55 : decode cX9_begin 55 = .ok (.iastore, 1) := by decide +kernel
theorem dX9_begin_56 : decode cX9_begin 56 = .ok (.iinc 2 1, 3) := by decide +kernel
theorem dX9_begin_59 : decode cX9_begin 59 = .ok (.goto (-42), 3) := by decide +kernel
theorem dX9_begin_62 : decode cX9_begin 62 = .ok (.iconst 0, 1) := by decide +kernel
theorem dX9_begin_63 : decode cX9_begin 63 = .ok (.istore_n 2, 1) := by decide +kernel
theorem dX9_begin_64 : decode cX9_begin 64 = .ok (.iload_n 2, 1) := by decide +kernel
theorem dX9_begin_65 : decode cX9_begin 65 = .ok (.aload_n 1, 1) := by decide +kernel
theorem dX9_begin_66 : decode cX9_begin 66 = .ok (.getfield 60, 3) := by decide +kernel
theorem dX9_begin_69 : decode cX9_begin 69 = .ok (.if_icmp .ge 38, 3) := by decide +kernel
theorem dX9_begin_72 : decode cX9_begin 72 = .ok (.aload_n 0, 1) := by decide +kernel
theorem dX9_begin_73 : decode cX9_begin 73 = .ok (.aload_n 1, 1) := by decide +kernel
theorem dX9_begin_74 : decode cX9_begin 74 = .ok (.getfield 61, 3) := by decide +kernel
theorem dX9_begin_77 : decode cX9_begin 77 = .ok (.iload_n 2, 1) := by decide +kernel
theorem dX9_begin_78 : decode cX9_begin 78 = .ok (.iaload, 1) := by decide +kernel
theorem dX9_begin_79 : decode cX9_begin 79 = .ok (.aload_n 1, 1) := by decide +kernel
theorem dX9_begin_80 : decode cX9_begin 80 = .ok (.getfield 64, 3) := by decide +kernel
theorem dX9_begin_83 : decode cX9_begin 83 = .ok (.iload_n 2, 1) := by decide +kernel
theorem dX9_begin_84 : decode cX9_begin 84 = .ok (.iaload, 1) := by decide +kernel
theorem dX9_begin_85 : decode cX9_begin 85 = .ok (.aload_n 1, 1) := by decide +kernel
theorem dX9_begin_86 : decode cX9_begin 86 = .ok (.getfield 65, 3) := by decide +kernel
theorem dX9_begin_89 : decode cX9_begin 89 = .ok (.iload_n 2, 1) := by decide +kernel
theorem dX9_begin_90 : decode cX9_begin 90 = .ok (.iaload, 1) := by decide +kernel
theorem dX9_begin_91 : decode cX9_begin 91 = .ok (.aload_n 1, 1) := by decide +kernel
theorem dX9_begin_92 : decode cX9_begin 92 = .ok (.getfield 66, 3) := by decide +kernel
theorem dX9_begin_95 : decode cX9_begin 95 = .ok (.iload_n 2, 1) := by decide +kernel
theorem dX9_begin_96 : decode cX9_begin 96 = .ok (.iaload, 1) := by decide +kernel
theorem dX9_begin_97 : decode cX9_begin 97 = .ok (.invokevirtual 67, 3) := by decide +kernel
theorem dX9_begin_100 : decode cX9_begin 100 = .ok (.pop, 1) := by decide +kernel
theorem dX9_begin_101 : decode cX9_begin 101 = .ok (.iinc 2 1, 3) := by decide +kernel
theorem dX9_begin_104 : decode cX9_begin 104 = .ok (.goto (-40), 3) := by decide +kernel
theorem dX9_begin_107 : decode cX9_begin 107 = .ok (.return_, 1) := by decide +kernel
theorem dX9_copyFrom_0 : decode cX9_copyFrom 0 = .ok (.aload_n 0, 1) := by decide +kernel
theorem dX9_copyFrom_1 : decode cX9_copyFrom 1 = .ok (.aload_n 1, 1) := by decide +kernel
theorem dX9_copyFrom_2 : decode cX9_copyFrom 2 = .ok (.getfield 45, 3) := by decide +kernel
theorem dX9_copyFrom_5 : decode cX9_copyFrom 5 = .ok (.putfield 45, 3) := by decide +kernel
theorem dX9_copyFrom_8 : decode cX9_copyFrom 8 = .ok (.aload_n 0, 1) := by decide +kernel
theorem dX9_copyFrom_9 : decode cX9_copyFrom 9 = .ok (.aload_n 1, 1) := by decide +kernel
theorem dX9_copyFrom_10 : decode cX9_copyFrom 10 = .ok (.getfield 49, 3) := by decide +kernel
theorem dX9_copyFrom_13 : decode cX9_copyFrom 13 = .ok (.putfield 49, 3) := by decide +kernel
theorem dX9_copyFrom_16 : decode cX9_copyFrom 16 = .ok (.aload_n 0, 1) := by decide +kernel
theorem dX9_copyFrom_17 : decode cX9_copyFrom 17 = .ok (.aload_n 1, 1) := by decide +kernel
theorem dX9_copyFrom_18 : decode cX9_copyFrom 18 = .ok (.getfield 52, 3) := by decide +kernel
theorem dX9_copyFrom_21 : decode cX9_copyFrom 21 = .ok (.putfield 52, 3) := by decide +kernel
theorem dX9_copyFrom_24 : decode cX9_copyFrom 24 = .ok (.aload_n 1, 1) := by decide +kernel
theorem dX9_copyFrom_25 : decode cX9_copyFrom 25 = .ok (.getfield 9, 3) := by decide +kernel
theorem dX9_copyFrom_28 : decode cX9_copyFrom 28 = .ok (.iconst 0, 1) := by decide +kernel
theorem dX9_copyFrom_29 : decode cX9_copyFrom 29 = .ok (.aload_n 0, 1) := by decide +kernel
theorem dX9_copyFrom_30 : decode cX9_copyFrom 30 = .ok (.getfield 9, 3) := by decide +kernel
theorem dX9_copyFrom_33 : decode cX9_copyFrom 33 = .ok (.iconst 0, 1) := by decide +kernel
theorem dX9_copyFrom_34 : decode cX9_copyFrom 34 = .ok (.bipush 6, 2) := by decide +kernel
theorem dX9_copyFrom_36 : decode cX9_copyFrom 36 = .ok (.invokestatic 71, 3) := by decide +kernel
theorem dX9_copyFrom_39 : decode cX9_copyFrom 39 = .ok (.aload_n 1, 1) := by decide +kernel
theorem dX9_copyFrom_40 : decode cX9_copyFrom 40 = .ok (.getfield 15, 3) := by decide +kernel
theorem dX9_copyFrom_43 : decode cX9_copyFrom 43 = .ok (.iconst 0, 1) := by decide +kernel
theorem dX9_copyFrom_44 : decode cX9_copyFrom 44 = .ok (.aload_n 0, 1) := by decide +kernel
theorem dX9_copyFrom_45 : decode cX9_copyFrom 45 = .ok (.getfield 15, 3) := by decide +kernel
theorem dX9_copyFrom_48 : decode cX9_copyFrom 48 = .ok (.iconst 0, 1) := by decide +kernel
theorem dX9_copyFrom_49 : decode cX9_copyFrom 49 = .ok (.bipush 6, 2) := by decide +kernel
theorem dX9_copyFrom_51 : decode cX9_copyFrom 51 = .ok (.invokestatic 71, 3) := by decide +kernel
theorem dX9_copyFrom_54 : decode cX9_copyFrom 54 = .ok (.aload_n 1, 1) := by decide +kernel
theorem dX9_copyFrom_55 : decode cX9_copyFrom 55 = .ok (.getfield 18, 3) := by decide +kernel
theorem dX9_copyFrom_58 : decode cX9_copyFrom 58 = .ok (.iconst 0, 1) := by decide +kernel
theorem dX9_copyFrom_59 : decode cX9_copyFrom 59 = .ok (.aload_n 0, 1) := by decide +kernel
theorem dX9_copyFrom_60 : decode cX9_copyFrom 60 = .ok (.getfield 18, 3) := by decide +kernel
theorem dX9_copyFrom_63 : decode cX9_copyFrom 63 = .ok (.iconst 0, 1) := by decide +kernel
theorem dX9_copyFrom_64 : decode cX9_copyFrom 64 = .ok (.bipush 6, 2) := by decide +kernel
theorem dX9_copyFrom_66 : decode cX9_copyFrom 66 = .ok (.invokestatic 71, 3) := by decide +kernel
theorem dX9_copyFrom_69 : decode cX9_copyFrom 69 = .ok (.aload_n 1, 1) := by decide +kernel
theorem dX9_copyFrom_70 : decode cX9_copyFrom 70 = .ok (.getfield 21, 3) := by decide +kernel
theorem dX9_copyFrom_73 : decode cX9_copyFrom 73 = .ok (.iconst 0, 1) := by decide +kernel
theorem dX9_copyFrom_74 : decode cX9_copyFrom 74 = .ok (.aload_n 0, 1) := by decide +kernel
theorem dX9_copyFrom_75 : decode cX9_copyFrom 75 = .ok (.getfield 21, 3) := by decide +kernel
theorem dX9_copyFrom_78 : decode cX9_copyFrom 78 = .ok (.iconst 0, 1) := by decide +kernel
theorem dX9_copyFrom_79 : decode cX9_copyFrom 79 = .ok (.bipush 6, 2) := by decide +kernel
theorem dX9_copyFrom_81 : decode cX9_copyFrom 81 = .ok (.invokestatic 71, 3) := by decide +kernel
theorem dX9_copyFrom_84 : decode cX9_copyFrom 84 = .ok (.aload_n 1, 1) := by decide +kernel
theorem dX9_copyFrom_85 : decode cX9_copyFrom 85 = .ok (.getfield 24, 3) := by decide +kernel
theorem dX9_copyFrom_88 : decode cX9_copyFrom 88 = .ok (.iconst 0, 1) := by decide +kernel
theorem dX9_copyFrom_89 : decode cX9_copyFrom 89 = .ok (.aload_n 0, 1) := by decide +kernel
theorem dX9_copyFrom_90 : decode cX9_copyFrom 90 = .ok (.getfield 24, 3) := by decide +kernel
theorem dX9_copyFrom_93 : decode cX9_copyFrom 93 = .ok (.iconst 0, 1) := by decide +kernel
theorem dX9_copyFrom_94 : decode cX9_copyFrom 94 = .ok (.bipush 10, 2) := by decide +kernel
theorem dX9_copyFrom_96 : decode cX9_copyFrom 96 = .ok (.invokestatic 71, 3) := by decide +kernel
theorem dX9_copyFrom_99 : decode cX9_copyFrom 99 = .ok (.aload_n 1, 1) := by decide +kernel
theorem dX9_copyFrom_100 : decode cX9_copyFrom 100 = .ok (.getfield 27, 3) := by decide +kernel
theorem dX9_copyFrom_103 : decode cX9_copyFrom 103 = .ok (.iconst 0, 1) := by decide +kernel
theorem dX9_copyFrom_104 : decode cX9_copyFrom 104 = .ok (.aload_n 0, 1) := by decide +kernel
theorem dX9_copyFrom_105 : decode cX9_copyFrom 105 = .ok (.getfield 27, 3) := by decide +kernel
theorem dX9_copyFrom_108 : decode cX9_copyFrom 108 = .ok (.iconst 0, 1) := by decide +kernel
theorem dX9_copyFrom_109 : decode cX9_copyFrom 109 = .ok (.bipush 10, 2) := by decide +kernel
theorem dX9_copyFrom_111 : decode cX9_copyFrom 111 = .ok (.invokestatic 71, 3) := by decide +kernel
theorem dX9_copyFrom_114 : decode cX9_copyFrom 114 = .ok (.aload_n 1, 1) := by decide +kernel
theorem dX9_copyFrom_115 : decode cX9_copyFrom 115 = .ok (.getfield 30, 3) := by decide +kernel
theorem dX9_copyFrom_118 : decode cX9_copyFrom 118 = .ok (.iconst 0, 1) := by decide +kernel
theorem dX9_copyFrom_119 : decode cX9_copyFrom 119 = .ok (.aload_n 0, 1) := by decide +kernel
theorem dX9_copyFrom_120 : decode cX9_copyFrom 120 = .ok (.getfield 30, 3) := by decide +kernel
theorem dX9_copyFrom_123 : decode cX9_copyFrom 123 = .ok (.iconst 0, 1) := by decide +kernel
theorem dX9_copyFrom_124 : decode cX9_copyFrom 124 = .ok (.bipush 10, 2) := by decide +kernel
theorem dX9_copyFrom_126 : decode cX9_copyFrom 126 = .ok (.invokestatic 71, 3) := by decide +kernel
theorem dX9_copyFrom_129 : decode cX9_copyFrom 129 = .ok (.aload_n 1, 1) := by decide +kernel
theorem dX9_copyFrom_130 : decode cX9_copyFrom 130 = .ok (.getfield 33, 3) := by decide +kernel
theorem dX9_copyFrom_133 : decode cX9_copyFrom 133 = .ok (.iconst 0, 1) := by decide +kernel
theorem dX9_copyFrom_134 : decode cX9_copyFrom 134 = .ok (.aload_n 0, 1) := by decide +kernel
theorem dX9_copyFrom_135 : decode cX9_copyFrom 135 = .ok (.getfield 33, 3) := by decide +kernel
theorem dX9_copyFrom_138 : decode cX9_copyFrom 138 = .ok (.iconst 0, 1) := by decide +kernel
theorem dX9_copyFrom_139 : decode cX9_copyFrom 139 = .ok (.bipush 10, 2) := by decide +kernel
theorem dX9_copyFrom_141 : decode cX9_copyFrom 141 = .ok (.invokestatic 71, 3) := by decide +kernel
theorem dX9_copyFrom_144 : decode cX9_copyFrom 144 = .ok (.aload_n 1, 1) := by decide +kernel
theorem dX9_copyFrom_145 : decode cX9_copyFrom 145 = .ok (.getfield 36, 3) := by decide +kernel
theorem dX9_copyFrom_148 : decode cX9_copyFrom 148 = .ok (.iconst 0, 1) := by decide +kernel
theorem dX9_copyFrom_149 : decode cX9_copyFrom 149 = .ok (.aload_n 0, 1) := by decide +kernel
theorem dX9_copyFrom_150 : decode cX9_copyFrom 150 = .ok (.getfield 36, 3) := by decide +kernel
theorem dX9_copyFrom_153 : decode cX9_copyFrom 153 = .ok (.iconst 0, 1) := by decide +kernel
theorem dX9_copyFrom_154 : decode cX9_copyFrom 154 = .ok (.bipush 10, 2) := by decide +kernel
theorem dX9_copyFrom_156 : decode cX9_copyFrom 156 = .ok (.invokestatic 71, 3) := by decide +kernel
theorem dX9_copyFrom_159 : decode cX9_copyFrom 159 = .ok (.aload_n 1, 1) := by decide +kernel
theorem dX9_copyFrom_160 : decode cX9_copyFrom 160 = .ok (.getfield 39, 3) := by decide +kernel
theorem dX9_copyFrom_163 : decode cX9_copyFrom 163 = .ok (.iconst 0, 1) := by decide +kernel
theorem dX9_copyFrom_164 : decode cX9_copyFrom 164 = .ok (.aload_n 0, 1) := by decide +kernel
theorem dX9_copyFrom_165 : decode cX9_copyFrom 165 = .ok (.getfield 39, 3) := by decide +kernel
theorem dX9_copyFrom_168 : decode cX9_copyFrom 168 = .ok (.iconst 0, 1) := by decide +kernel
theorem dX9_copyFrom_169 : decode cX9_copyFrom 169 = .ok (.bipush 10, 2) := by decide +kernel
theorem dX9_copyFrom_171 : decode cX9_copyFrom 171 = .ok (.invokestatic 71, 3) := by decide +kernel
theorem dX9_copyFrom_174 : decode cX9_copyFrom 174 = .ok (.aload_n 1, 1) := by decide +kernel
theorem dX9_copyFrom_175 : decode cX9_copyFrom 175 = .ok (.getfield 42, 3) := by decide +kernel
theorem dX9_copyFrom_178 : decode cX9_copyFrom 178 = .ok (.iconst 0, 1) := by decide +kernel
theorem dX9_copyFrom_179 : decode cX9_copyFrom 179 = .ok (.aload_n 0, 1) := by decide +kernel
theorem dX9_copyFrom_180 : decode cX9_copyFrom 180 = .ok (.getfield 42, 3) := by decide +kernel
theorem dX9_copyFrom_183 : decode cX9_copyFrom 183 = .ok (.iconst 0, 1) := by decide +kernel
theorem dX9_copyFrom_184 : decode cX9_copyFrom 184 = .ok (.bipush 10, 2) := by decide +kernel
theorem dX9_copyFrom_186 : decode cX9_copyFrom 186 = .ok (.invokestatic 71, 3) := by decide +kernel
theorem dX9_copyFrom_189 : decode cX9_copyFrom 189 = .ok (.return_, 1) := by decide +kernel
theorem dX9_addLetter_0 : decode cX9_addLetter 0 = .ok (.aload_n 0, 1) := by decide +kernel
theorem dX9_addLetter_1 : decode cX9_addLetter 1 = .ok (.getfield 52, 3) := by decide +kernel
theorem dX9_addLetter_4 : decode cX9_addLetter 4 = .ok (.istore 5, 2) := by decide +kernel
theorem dX9_addLetter_6 : decode cX9_addLetter 6 = .ok (.iload 5, 2) := by decide +kernel
theorem dX9_addLetter_8 : decode cX9_addLetter 8 = .ok (.bipush 10, 2) := by decide +kernel
theorem dX9_addLetter_10 : decode cX9_addLetter 10 = .ok (.invokestatic 77, 3) := by decide +kernel
theorem dX9_addLetter_13 : decode cX9_addLetter 13 = .ok (.ifCond .ne 5, 3) := by decide +kernel
theorem dX9_addLetter_16 : decode cX9_addLetter 16 = .ok (.iconst (-1), 1) := by decide +kernel
theorem dX9_addLetter_17 : decode cX9_addLetter 17 = .ok (.ireturn, 1) := by decide +kernel
theorem dX9_addLetter_18 : decode cX9_addLetter 18 = .ok (.aload_n 0, 1) := by decide +kernel
theorem dX9_addLetter_19 : decode cX9_addLetter 19 = .ok (.getfield 24, 3) := by decide +kernel
theorem dX9_addLetter_22 : decode cX9_addLetter 22 = .ok (.iload 5, 2) := by decide +kernel
theorem dX9_addLetter_24 : decode cX9_addLetter 24 = .ok (.iload_n 1, 1) := by decide +kernel
theorem dX9_addLetter_25 : decode cX9_addLetter 25 = .ok (.iastore, 1) := by decide +kernel
theorem dX9_addLetter_26 : decode cX9_addLetter 26 = .ok (.aload_n 0, 1) := by decide +kernel
theorem dX9_addLetter_27 : decode cX9_addLetter 27 = .ok (.getfield 27, 3) := by decide +kernel
theorem dX9_addLetter_30 : decode cX9_addLetter 30 = .ok (.iload 5, 2) := by decide +kernel
theorem dX9_addLetter_32 : decode cX9_addLetter 32 = .ok (.iconst (-1), 1) := by decide +kernel
theorem dX9_addLetter_33 : decode cX9_addLetter 33 = .ok (.iastore, 1) := by decide +kernel
theorem dX9_addLetter_34 : decode cX9_addLetter 34 = .ok (.aload_n 0, 1) := by decide +kernel
theorem dX9_addLetter_35 : decode cX9_addLetter 35 = .ok (.getfield 30, 3) := by decide +kernel
theorem dX9_addLetter_38 : decode cX9_addLetter 38 = .ok (.iload 5, 2) := by decide +kernel
theorem dX9_addLetter_40 : decode cX9_addLetter 40 = .ok (.iconst (-1), 1) := by decide +kernel
theorem dX9_addLetter_41 : decode cX9_addLetter 41 = .ok (.iastore, 1) := by decide +kernel
theorem dX9_addLetter_42 : decode cX9_addLetter 42 = .ok (.aload_n 0, 1) := by decide +kernel
theorem dX9_addLetter_43 : decode cX9_addLetter 43 = .ok (.getfield 33, 3) := by decide +kernel
theorem dX9_addLetter_46 : decode cX9_addLetter 46 = .ok (.iload 5, 2) := by decide +kernel
theorem dX9_addLetter_48 : decode cX9_addLetter 48 = .ok (.iload_n 2, 1) := by decide +kernel
theorem dX9_addLetter_49 : decode cX9_addLetter 49 = .ok (.iastore, 1) := by decide +kernel
theorem dX9_addLetter_50 : decode cX9_addLetter 50 = .ok (.aload_n 0, 1) := by decide +kernel
theorem dX9_addLetter_51 : decode cX9_addLetter 51 = .ok (.getfield 36, 3) := by decide +kernel
theorem dX9_addLetter_54 : decode cX9_addLetter 54 = .ok (.iload 5, 2) := by decide +kernel
theorem dX9_addLetter_56 : decode cX9_addLetter 56 = .ok (.iload_n 3, 1) := by decide +kernel
theorem dX9_addLetter_57 : decode cX9_addLetter 57 = .ok (.iastore, 1) := by decide +kernel
theorem dX9_addLetter_58 : decode cX9_addLetter 58 = .ok (.aload_n 0, 1) := by decide +kernel
theorem dX9_addLetter_59 : decode cX9_addLetter 59 = .ok (.getfield 39, 3) := by decide +kernel
theorem dX9_addLetter_62 : decode cX9_addLetter 62 = .ok (.iload 5, 2) := by decide +kernel
theorem dX9_addLetter_64 : decode cX9_addLetter 64 = .ok (.iload 4, 2) := by decide +kernel
theorem dX9_addLetter_66 : decode cX9_addLetter 66 = .ok (.iastore, 1) := by decide +kernel
theorem dX9_addLetter_67 : decode cX9_addLetter 67 = .ok (.aload_n 0, 1) := by decide +kernel
theorem dX9_addLetter_68 : decode cX9_addLetter 68 = .ok (.getfield 42, 3) := by decide +kernel
theorem dX9_addLetter_71 : decode cX9_addLetter 71 = .ok (.iload 5, 2) := by decide +kernel
theorem dX9_addLetter_73 : decode cX9_addLetter 73 = .ok (.iconst 0, 1) := by decide +kernel
theorem dX9_addLetter_74 : decode cX9_addLetter 74 = .ok (.iastore, 1) := by decide +kernel
theorem dX9_addLetter_75 : decode cX9_addLetter 75 = .ok (.aload_n 0, 1) := by decide +kernel
theorem dX9_addLetter_76 : decode cX9_addLetter 76 = .ok (.dup, 1) := by decide +kernel
theorem dX9_addLetter_77 : decode cX9_addLetter 77 = .ok (.getfield 52, 3) := by decide +kernel
theorem dX9_addLetter_80 : decode cX9_addLetter 80 = .ok (.iconst 1, 1) := by decide +kernel
theorem dX9_addLetter_81 : decode cX9_addLetter 81 = .ok (.iadd, 1) := by decide +kernel
theorem dX9_addLetter_82 : decode cX9_addLetter 82 = .ok (.putfield 52, 3) := by decide +kernel
theorem dX9_addLetter_85 : decode cX9_addLetter 85 = .ok (.iload 5, 2) := by decide +kernel
theorem dX9_addLetter_87 : decode cX9_addLetter 87 = .ok (.ireturn, 1) := by decide +kernel
theorem dX9_leaveOneLetter_0 : decode cX9_leaveOneLetter 0 = .ok (.aload_n 0, 1) := by decide +kernel
theorem dX9_leaveOneLetter_1 : decode cX9_leaveOneLetter 1 = .ok (.iconst 0, 1) := by decide +kernel
theorem dX9_leaveOneLetter_2 : decode cX9_leaveOneLetter 2 = .ok (.putfield 52, 3) := by decide +kernel
theorem dX9_leaveOneLetter_5 : decode cX9_leaveOneLetter 5 = .ok (.iconst 0, 1) := by decide +kernel
theorem dX9_leaveOneLetter_6 : decode cX9_leaveOneLetter 6 = .ok (.istore_n 3, 1) := by decide +kernel
theorem dX9_leaveOneLetter_7 : decode cX9_leaveOneLetter 7 = .ok (.iload_n 3, 1) := by decide +kernel
theorem dX9_leaveOneLetter_8 : decode cX9_leaveOneLetter 8 = .ok (.bipush 6, 2) := by decide +kernel
theorem dX9_leaveOneLetter_10 : decode cX9_leaveOneLetter 10 = .ok (.if_icmp .ge 16, 3) := by decide +kernel
theorem dX9_leaveOneLetter_13 : decode cX9_leaveOneLetter 13 = .ok (.aload_n 0, 1) := by decide +kernel
theorem dX9_leaveOneLetter_14 : decode cX9_leaveOneLetter 14 = .ok (.getfield 21, 3) := by decide +kernel
theorem dX9_leaveOneLetter_17 : decode cX9_leaveOneLetter 17 = .ok (.iload_n 3, 1) := by decide +kernel
theorem dX9_leaveOneLetter_18 : decode cX9_leaveOneLetter 18 = .ok (.iconst 0, 1) := by decide +kernel
theorem dX9_leaveOneLetter_19 : decode cX9_leaveOneLetter 19 = .ok (.iastore, 1) := by decide +kernel
theorem dX9_leaveOneLetter_20 : decode cX9_leaveOneLetter 20 = .ok (.iinc 3 1, 3) := by decide +kernel
theorem dX9_leaveOneLetter_23 : decode cX9_leaveOneLetter 23 = .ok (.goto (-16), 3) := by decide +kernel
theorem dX9_leaveOneLetter_26 : decode cX9_leaveOneLetter 26 = .ok (.aload_n 0, 1) := by decide +kernel
theorem dX9_leaveOneLetter_27 : decode cX9_leaveOneLetter 27 = .ok (.iload_n 1, 1) := by decide +kernel
theorem dX9_leaveOneLetter_28 : decode cX9_leaveOneLetter 28 = .ok (.iload_n 2, 1) := by decide +kernel
theorem dX9_leaveOneLetter_29 : decode cX9_leaveOneLetter 29 = .ok (.sipush 200, 3) := by decide +kernel
theorem dX9_leaveOneLetter_32 : decode cX9_leaveOneLetter 32 = .ok (.iconst 1, 1) := by decide +kernel
theorem dX9_leaveOneLetter_33 : decode cX9_leaveOneLetter 33 = .ok (.invokevirtual 67, 3) := by decide +kernel
theorem dX9_leaveOneLetter_36 : decode cX9_leaveOneLetter 36 = .ok (.pop, 1) := by decide +kernel
theorem dX9_leaveOneLetter_37 : decode cX9_leaveOneLetter 37 = .ok (.return_, 1) := by decide +kernel
theorem dX9_standsIn_0 : decode cX9_standsIn 0 = .ok (.iload_n 1, 1) := by decide +kernel
theorem dX9_standsIn_1 : decode cX9_standsIn 1 = .ok (.ifCond .lt 13, 3) := by decide +kernel
theorem dX9_standsIn_4 : decode cX9_standsIn 4 = .ok (.iload_n 1, 1) := by decide +kernel
theorem dX9_standsIn_5 : decode cX9_standsIn 5 = .ok (.bipush 6, 2) := by decide +kernel
theorem dX9_standsIn_7 : decode cX9_standsIn 7 = .ok (.if_icmp .ge 7, 3) := by decide +kernel
theorem dX9_standsIn_10 : decode cX9_standsIn 10 = .ok (.iconst 1, 1) := by decide +kernel
theorem dX9_standsIn_11 : decode cX9_standsIn 11 = .ok (.goto 4, 3) := by decide +kernel
theorem dX9_standsIn_14 : decode cX9_standsIn 14 = .ok (.iconst 0, 1) := by decide +kernel
theorem dX9_standsIn_15 : decode cX9_standsIn 15 = .ok (.istore_n 2, 1) := by decide +kernel
theorem dX9_standsIn_16 : decode cX9_standsIn 16 = .ok (.iload_n 2, 1) := by decide +kernel
theorem dX9_standsIn_17 : decode cX9_standsIn 17 = .ok (.ifCond .eq 22, 3) := by decide +kernel
theorem dX9_standsIn_20 : decode cX9_standsIn 20 = .ok (.aload_n 0, 1) := by decide +kernel
theorem dX9_standsIn_21 : decode cX9_standsIn 21 = .ok (.getfield 9, 3) := by decide +kernel
theorem dX9_standsIn_24 : decode cX9_standsIn 24 = .ok (.iload_n 1, 1) := by decide +kernel
theorem dX9_standsIn_25 : decode cX9_standsIn 25 = .ok (.iaload, 1) := by decide +kernel
theorem dX9_standsIn_26 : decode cX9_standsIn 26 = .ok (.iconst 1, 1) := by decide +kernel
theorem dX9_standsIn_27 : decode cX9_standsIn 27 = .ok (.if_icmp .ne 12, 3) := by decide +kernel
theorem dX9_standsIn_30 : decode cX9_standsIn 30 = .ok (.aload_n 0, 1) := by decide +kernel
theorem dX9_standsIn_31 : decode cX9_standsIn 31 = .ok (.getfield 15, 3) := by decide +kernel
theorem dX9_standsIn_34 : decode cX9_standsIn 34 = .ok (.iload_n 1, 1) := by decide +kernel
theorem dX9_standsIn_35 : decode cX9_standsIn 35 = .ok (.iaload, 1) := by decide +kernel
theorem dX9_standsIn_36 : decode cX9_standsIn 36 = .ok (.goto 4, 3) := by decide +kernel
theorem dX9_standsIn_39 : decode cX9_standsIn 39 = .ok (.iconst (-1), 1) := by decide +kernel
theorem dX9_standsIn_40 : decode cX9_standsIn 40 = .ok (.ireturn, 1) := by decide +kernel
theorem dX9_spotOf_0 : decode cX9_spotOf 0 = .ok (.aload_n 0, 1) := by decide +kernel
theorem dX9_spotOf_1 : decode cX9_spotOf 1 = .ok (.getfield 24, 3) := by decide +kernel
theorem dX9_spotOf_4 : decode cX9_spotOf 4 = .ok (.iload_n 1, 1) := by decide +kernel
theorem dX9_spotOf_5 : decode cX9_spotOf 5 = .ok (.iaload, 1) := by decide +kernel
theorem dX9_spotOf_6 : decode cX9_spotOf 6 = .ok (.istore_n 2, 1) := by decide +kernel
theorem dX9_spotOf_7 : decode cX9_spotOf 7 = .ok (.iload_n 2, 1) := by decide +kernel
theorem dX9_spotOf_8 : decode cX9_spotOf 8 = .ok (.iconst (-1), 1) := by decide +kernel
theorem dX9_spotOf_9 : decode cX9_spotOf 9 = .ok (.if_icmp .eq 7, 3) := by decide +kernel
theorem dX9_spotOf_12 : decode cX9_spotOf 12 = .ok (.iload_n 2, 1) := by decide +kernel
theorem dX9_spotOf_13 : decode cX9_spotOf 13 = .ok (.goto 13, 3) := by decide +kernel
theorem dX9_spotOf_16 : decode cX9_spotOf 16 = .ok (.aload_n 0, 1) := by decide +kernel
theorem dX9_spotOf_17 : decode cX9_spotOf 17 = .ok (.aload_n 0, 1) := by decide +kernel
theorem dX9_spotOf_18 : decode cX9_spotOf 18 = .ok (.getfield 27, 3) := by decide +kernel
theorem dX9_spotOf_21 : decode cX9_spotOf 21 = .ok (.iload_n 1, 1) := by decide +kernel
theorem dX9_spotOf_22 : decode cX9_spotOf 22 = .ok (.iaload, 1) := by decide +kernel
theorem dX9_spotOf_23 : decode cX9_spotOf 23 = .ok (.invokevirtual 81, 3) := by decide +kernel
theorem dX9_spotOf_26 : decode cX9_spotOf 26 = .ok (.ireturn, 1) := by decide +kernel
theorem dX9_pileAt_0 : decode cX9_pileAt 0 = .ok (.iconst 0, 1) := by decide +kernel
theorem dX9_pileAt_1 : decode cX9_pileAt 1 = .ok (.istore_n 2, 1) := by decide +kernel
theorem dX9_pileAt_2 : decode cX9_pileAt 2 = .ok (.iconst 0, 1) := by decide +kernel
theorem dX9_pileAt_3 : decode cX9_pileAt 3 = .ok (.istore_n 3, 1) := by decide +kernel
theorem dX9_pileAt_4 : decode cX9_pileAt 4 = .ok (.iload_n 3, 1) := by decide +kernel
theorem dX9_pileAt_5 : decode cX9_pileAt 5 = .ok (.aload_n 0, 1) := by decide +kernel
theorem dX9_pileAt_6 : decode cX9_pileAt 6 = .ok (.getfield 52, 3) := by decide +kernel
theorem dX9_pileAt_9 : decode cX9_pileAt 9 = .ok (.if_icmp .ge 25, 3) := by decide +kernel
theorem dX9_pileAt_12 : decode cX9_pileAt 12 = .ok (.aload_n 0, 1) := by decide +kernel
theorem dX9_pileAt_13 : decode cX9_pileAt 13 = .ok (.getfield 24, 3) := by decide +kernel
theorem dX9_pileAt_16 : decode cX9_pileAt 16 = .ok (.iload_n 3, 1) := by decide +kernel
theorem dX9_pileAt_17 : decode cX9_pileAt 17 = .ok (.iaload, 1) := by decide +kernel
theorem dX9_pileAt_18 : decode cX9_pileAt 18 = .ok (.iload_n 1, 1) := by decide +kernel
theorem dX9_pileAt_19 : decode cX9_pileAt 19 = .ok (.if_icmp .ne 9, 3) := by decide +kernel
theorem dX9_pileAt_22 : decode cX9_pileAt 22 = .ok (.iload_n 2, 1) := by decide +kernel
theorem dX9_pileAt_23 : decode cX9_pileAt 23 = .ok (.iconst 1, 1) := by decide +kernel
theorem dX9_pileAt_24 : decode cX9_pileAt 24 = .ok (.iload_n 3, 1) := by decide +kernel
theorem dX9_pileAt_25 : decode cX9_pileAt 25 = .ok (.ishl, 1) := by decide +kernel
theorem dX9_pileAt_26 : decode cX9_pileAt 26 = .ok (.ior, 1) := by decide +kernel
theorem dX9_pileAt_27 : decode cX9_pileAt 27 = .ok (.istore_n 2, 1) := by decide +kernel
theorem dX9_pileAt_28 : decode cX9_pileAt 28 = .ok (.iinc 3 1, 3) := by decide +kernel
theorem dX9_pileAt_31 : decode cX9_pileAt 31 = .ok (.goto (-27), 3) := by decide +kernel
theorem dX9_pileAt_34 : decode cX9_pileAt 34 = .ok (.iload_n 2, 1) := by decide +kernel
theorem dX9_pileAt_35 : decode cX9_pileAt 35 = .ok (.ireturn, 1) := by decide +kernel
theorem dX9_standingAt_0 : decode cX9_standingAt 0 = .ok (.iconst 0, 1) := by decide +kernel
theorem dX9_standingAt_1 : decode cX9_standingAt 1 = .ok (.istore_n 2, 1) := by decide +kernel
theorem dX9_standingAt_2 : decode cX9_standingAt 2 = .ok (.iconst 0, 1) := by decide +kernel
theorem dX9_standingAt_3 : decode cX9_standingAt 3 = .ok (.istore_n 3, 1) := by decide +kernel
theorem dX9_standingAt_4 : decode cX9_standingAt 4 = .ok (.iload_n 3, 1) := by decide +kernel
theorem dX9_standingAt_5 : decode cX9_standingAt 5 = .ok (.bipush 6, 2) := by decide +kernel
theorem dX9_standingAt_7 : decode cX9_standingAt 7 = .ok (.if_icmp .ge 24, 3) := by decide +kernel
theorem dX9_standingAt_10 : decode cX9_standingAt 10 = .ok (.aload_n 0, 1) := by decide +kernel
theorem dX9_standingAt_11 : decode cX9_standingAt 11 = .ok (.iload_n 3, 1) := by decide +kernel
theorem dX9_standingAt_12 : decode cX9_standingAt 12 = .ok (.invokevirtual 81, 3) := by decide +kernel
theorem dX9_standingAt_15 : decode cX9_standingAt 15 = .ok (.iload_n 1, 1) := by decide +kernel
theorem dX9_standingAt_16 : decode cX9_standingAt 16 = .ok (.if_icmp .ne 9, 3) := by decide +kernel
theorem dX9_standingAt_19 : decode cX9_standingAt 19 = .ok (.iload_n 2, 1) := by decide +kernel
theorem dX9_standingAt_20 : decode cX9_standingAt 20 = .ok (.iconst 1, 1) := by decide +kernel
theorem dX9_standingAt_21 : decode cX9_standingAt 21 = .ok (.iload_n 3, 1) := by decide +kernel
theorem dX9_standingAt_22 : decode cX9_standingAt 22 = .ok (.ishl, 1) := by decide +kernel
theorem dX9_standingAt_23 : decode cX9_standingAt 23 = .ok (.ior, 1) := by decide +kernel
theorem dX9_standingAt_24 : decode cX9_standingAt 24 = .ok (.istore_n 2, 1) := by decide +kernel
theorem dX9_standingAt_25 : decode cX9_standingAt 25 = .ok (.iinc 3 1, 3) := by decide +kernel
theorem dX9_standingAt_28 : decode cX9_standingAt 28 = .ok (.goto (-24), 3) := by decide +kernel
theorem dX9_standingAt_31 : decode cX9_standingAt 31 = .ok (.iload_n 2, 1) := by decide +kernel
theorem dX9_standingAt_32 : decode cX9_standingAt 32 = .ok (.ireturn, 1) := by decide +kernel
theorem dX9_lettersIn_0 : decode cX9_lettersIn 0 = .ok (.iconst 0, 1) := by decide +kernel
theorem dX9_lettersIn_1 : decode cX9_lettersIn 1 = .ok (.istore_n 2, 1) := by decide +kernel
theorem dX9_lettersIn_2 : decode cX9_lettersIn 2 = .ok (.iconst 0, 1) := by decide +kernel
theorem dX9_lettersIn_3 : decode cX9_lettersIn 3 = .ok (.istore_n 3, 1) := by decide +kernel
theorem dX9_lettersIn_4 : decode cX9_lettersIn 4 = .ok (.iload_n 3, 1) := by decide +kernel
theorem dX9_lettersIn_5 : decode cX9_lettersIn 5 = .ok (.aload_n 0, 1) := by decide +kernel
theorem dX9_lettersIn_6 : decode cX9_lettersIn 6 = .ok (.getfield 52, 3) := by decide +kernel
theorem dX9_lettersIn_9 : decode cX9_lettersIn 9 = .ok (.if_icmp .ge 25, 3) := by decide +kernel
theorem dX9_lettersIn_12 : decode cX9_lettersIn 12 = .ok (.aload_n 0, 1) := by decide +kernel
theorem dX9_lettersIn_13 : decode cX9_lettersIn 13 = .ok (.getfield 27, 3) := by decide +kernel
theorem dX9_lettersIn_16 : decode cX9_lettersIn 16 = .ok (.iload_n 3, 1) := by decide +kernel
theorem dX9_lettersIn_17 : decode cX9_lettersIn 17 = .ok (.iaload, 1) := by decide +kernel
theorem dX9_lettersIn_18 : decode cX9_lettersIn 18 = .ok (.iload_n 1, 1) := by decide +kernel
theorem dX9_lettersIn_19 : decode cX9_lettersIn 19 = .ok (.if_icmp .ne 9, 3) := by decide +kernel
theorem dX9_lettersIn_22 : decode cX9_lettersIn 22 = .ok (.iload_n 2, 1) := by decide +kernel
theorem dX9_lettersIn_23 : decode cX9_lettersIn 23 = .ok (.iconst 1, 1) := by decide +kernel
theorem dX9_lettersIn_24 : decode cX9_lettersIn 24 = .ok (.iload_n 3, 1) := by decide +kernel
theorem dX9_lettersIn_25 : decode cX9_lettersIn 25 = .ok (.ishl, 1) := by decide +kernel
theorem dX9_lettersIn_26 : decode cX9_lettersIn 26 = .ok (.ior, 1) := by decide +kernel
theorem dX9_lettersIn_27 : decode cX9_lettersIn 27 = .ok (.istore_n 2, 1) := by decide +kernel
theorem dX9_lettersIn_28 : decode cX9_lettersIn 28 = .ok (.iinc 3 1, 3) := by decide +kernel
theorem dX9_lettersIn_31 : decode cX9_lettersIn 31 = .ok (.goto (-27), 3) := by decide +kernel
theorem dX9_lettersIn_34 : decode cX9_lettersIn 34 = .ok (.iload_n 2, 1) := by decide +kernel
theorem dX9_lettersIn_35 : decode cX9_lettersIn 35 = .ok (.ireturn, 1) := by decide +kernel
theorem dX9_lettersHome_0 : decode cX9_lettersHome 0 = .ok (.iconst 0, 1) := by decide +kernel
theorem dX9_lettersHome_1 : decode cX9_lettersHome 1 = .ok (.istore_n 1, 1) := by decide +kernel
theorem dX9_lettersHome_2 : decode cX9_lettersHome 2 = .ok (.iconst 0, 1) := by decide +kernel
theorem dX9_lettersHome_3 : decode cX9_lettersHome 3 = .ok (.istore_n 2, 1) := by decide +kernel
theorem dX9_lettersHome_4 : decode cX9_lettersHome 4 = .ok (.iload_n 2, 1) := by decide +kernel
theorem dX9_lettersHome_5 : decode cX9_lettersHome 5 = .ok (.aload_n 0, 1) := by decide +kernel
theorem dX9_lettersHome_6 : decode cX9_lettersHome 6 = .ok (.getfield 52, 3) := by decide +kernel
theorem dX9_lettersHome_9 : decode cX9_lettersHome 9 = .ok (.if_icmp .ge 25, 3) := by decide +kernel
theorem dX9_lettersHome_12 : decode cX9_lettersHome 12 = .ok (.aload_n 0, 1) := by decide +kernel
theorem dX9_lettersHome_13 : decode cX9_lettersHome 13 = .ok (.getfield 30, 3) := by decide +kernel
theorem dX9_lettersHome_16 : decode cX9_lettersHome 16 = .ok (.iload_n 2, 1) := by decide +kernel
theorem dX9_lettersHome_17 : decode cX9_lettersHome 17 = .ok (.iaload, 1) := by decide +kernel
theorem dX9_lettersHome_18 : decode cX9_lettersHome 18 = .ok (.iconst (-1), 1) := by decide +kernel
theorem dX9_lettersHome_19 : decode cX9_lettersHome 19 = .ok (.if_icmp .eq 9, 3) := by decide +kernel
theorem dX9_lettersHome_22 : decode cX9_lettersHome 22 = .ok (.iload_n 1, 1) := by decide +kernel
theorem dX9_lettersHome_23 : decode cX9_lettersHome 23 = .ok (.iconst 1, 1) := by decide +kernel
theorem dX9_lettersHome_24 : decode cX9_lettersHome 24 = .ok (.iload_n 2, 1) := by decide +kernel
theorem dX9_lettersHome_25 : decode cX9_lettersHome 25 = .ok (.ishl, 1) := by decide +kernel
theorem dX9_lettersHome_26 : decode cX9_lettersHome 26 = .ok (.ior, 1) := by decide +kernel
theorem dX9_lettersHome_27 : decode cX9_lettersHome 27 = .ok (.istore_n 1, 1) := by decide +kernel
theorem dX9_lettersHome_28 : decode cX9_lettersHome 28 = .ok (.iinc 2 1, 3) := by decide +kernel
theorem dX9_lettersHome_31 : decode cX9_lettersHome 31 = .ok (.goto (-27), 3) := by decide +kernel
theorem dX9_lettersHome_34 : decode cX9_lettersHome 34 = .ok (.iload_n 1, 1) := by decide +kernel
theorem dX9_lettersHome_35 : decode cX9_lettersHome 35 = .ok (.ireturn, 1) := by decide +kernel
theorem dX9_isInTime_0 : decode cX9_isInTime 0 = .ok (.aload_n 0, 1) := by decide +kernel
theorem dX9_isInTime_1 : decode cX9_isInTime 1 = .ok (.getfield 30, 3) := by decide +kernel
theorem dX9_isInTime_4 : decode cX9_isInTime 4 = .ok (.iload_n 1, 1) := by decide +kernel
theorem dX9_isInTime_5 : decode cX9_isInTime 5 = .ok (.iaload, 1) := by decide +kernel
theorem dX9_isInTime_6 : decode cX9_isInTime 6 = .ok (.iconst (-1), 1) := by decide +kernel
theorem dX9_isInTime_7 : decode cX9_isInTime 7 = .ok (.if_icmp .eq 22, 3) := by decide +kernel
theorem dX9_isInTime_10 : decode cX9_isInTime 10 = .ok (.aload_n 0, 1) := by decide +kernel
theorem dX9_isInTime_11 : decode cX9_isInTime 11 = .ok (.getfield 30, 3) := by decide +kernel
theorem dX9_isInTime_14 : decode cX9_isInTime 14 = .ok (.iload_n 1, 1) := by decide +kernel
theorem dX9_isInTime_15 : decode cX9_isInTime 15 = .ok (.iaload, 1) := by decide +kernel
theorem dX9_isInTime_16 : decode cX9_isInTime 16 = .ok (.aload_n 0, 1) := by decide +kernel
theorem dX9_isInTime_17 : decode cX9_isInTime 17 = .ok (.getfield 36, 3) := by decide +kernel
theorem dX9_isInTime_20 : decode cX9_isInTime 20 = .ok (.iload_n 1, 1) := by decide +kernel
theorem dX9_isInTime_21 : decode cX9_isInTime 21 = .ok (.iaload, 1) := by decide +kernel
theorem dX9_isInTime_22 : decode cX9_isInTime 22 = .ok (.if_icmp .gt 7, 3) := by decide +kernel
theorem dX9_isInTime_25 : decode cX9_isInTime 25 = .ok (.iconst 1, 1) := by decide +kernel
theorem dX9_isInTime_26 : decode cX9_isInTime 26 = .ok (.goto 4, 3) := by decide +kernel
theorem dX9_isInTime_29 : decode cX9_isInTime 29 = .ok (.iconst 0, 1) := by decide +kernel
theorem dX9_isInTime_30 : decode cX9_isInTime 30 = .ok (.ireturn, 1) := by decide +kernel
theorem dX9_putInPile_0 : decode cX9_putInPile 0 = .ok (.aload_n 0, 1) := by decide +kernel
theorem dX9_putInPile_1 : decode cX9_putInPile 1 = .ok (.aload_n 0, 1) := by decide +kernel
theorem dX9_putInPile_2 : decode cX9_putInPile 2 = .ok (.getfield 27, 3) := by decide +kernel
theorem dX9_putInPile_5 : decode cX9_putInPile 5 = .ok (.iload_n 1, 1) := by decide +kernel
theorem dX9_putInPile_6 : decode cX9_putInPile 6 = .ok (.iaload, 1) := by decide +kernel
theorem dX9_putInPile_7 : decode cX9_putInPile 7 = .ok (.invokevirtual 85, 3) := by decide +kernel
theorem dX9_putInPile_10 : decode cX9_putInPile 10 = .ok (.aload_n 0, 1) := by decide +kernel
theorem dX9_putInPile_11 : decode cX9_putInPile 11 = .ok (.getfield 27, 3) := by decide +kernel
theorem dX9_putInPile_14 : decode cX9_putInPile 14 = .ok (.iload_n 1, 1) := by decide +kernel
theorem dX9_putInPile_15 : decode cX9_putInPile 15 = .ok (.iconst (-1), 1) := by decide +kernel
theorem dX9_putInPile_16 : decode cX9_putInPile 16 = .ok (.iastore, 1) := by decide +kernel
theorem dX9_putInPile_17 : decode cX9_putInPile 17 = .ok (.aload_n 0, 1) := by decide +kernel
theorem dX9_putInPile_18 : decode cX9_putInPile 18 = .ok (.getfield 24, 3) := by decide +kernel
theorem dX9_putInPile_21 : decode cX9_putInPile 21 = .ok (.iload_n 1, 1) := by decide +kernel
theorem dX9_putInPile_22 : decode cX9_putInPile 22 = .ok (.iload_n 2, 1) := by decide +kernel
theorem dX9_putInPile_23 : decode cX9_putInPile 23 = .ok (.iastore, 1) := by decide +kernel
theorem dX9_putInPile_24 : decode cX9_putInPile 24 = .ok (.return_, 1) := by decide +kernel
theorem dX9_putInBier_0 : decode cX9_putInBier 0 = .ok (.aload_n 0, 1) := by decide +kernel
theorem dX9_putInBier_1 : decode cX9_putInBier 1 = .ok (.getfield 27, 3) := by decide +kernel
theorem dX9_putInBier_4 : decode cX9_putInBier 4 = .ok (.iload_n 1, 1) := by decide +kernel
theorem dX9_putInBier_5 : decode cX9_putInBier 5 = .ok (.iaload, 1) := by decide +kernel
theorem dX9_putInBier_6 : decode cX9_putInBier 6 = .ok (.iload_n 2, 1) := by decide +kernel
theorem dX9_putInBier_7 : decode cX9_putInBier 7 = .ok (.if_icmp .eq 56, 3) := by decide +kernel
theorem dX9_putInBier_10 : decode cX9_putInBier 10 = .ok (.iload_n 2, 1) := by decide +kernel
theorem dX9_putInBier_11 : decode cX9_putInBier 11 = .ok (.bipush 6, 2) := by decide +kernel
theorem dX9_putInBier_13 : decode cX9_putInBier 13 = .ok (.invokestatic 77, 3) := by decide +kernel
theorem dX9_putInBier_16 : decode cX9_putInBier 16 = .ok (.ifCond .eq 47, 3) := by decide +kernel
theorem dX9_putInBier_19 : decode cX9_putInBier 19 = .ok (.aload_n 0, 1) := by decide +kernel
theorem dX9_putInBier_20 : decode cX9_putInBier 20 = .ok (.aload_n 0, 1) := by decide +kernel
theorem dX9_putInBier_21 : decode cX9_putInBier 21 = .ok (.getfield 27, 3) := by decide +kernel
theorem dX9_putInBier_24 : decode cX9_putInBier 24 = .ok (.iload_n 1, 1) := by decide +kernel
theorem dX9_putInBier_25 : decode cX9_putInBier 25 = .ok (.iaload, 1) := by decide +kernel
theorem dX9_putInBier_26 : decode cX9_putInBier 26 = .ok (.invokevirtual 85, 3) := by decide +kernel
theorem dX9_putInBier_29 : decode cX9_putInBier 29 = .ok (.aload_n 0, 1) := by decide +kernel
theorem dX9_putInBier_30 : decode cX9_putInBier 30 = .ok (.getfield 24, 3) := by decide +kernel
theorem dX9_putInBier_33 : decode cX9_putInBier 33 = .ok (.iload_n 1, 1) := by decide +kernel
theorem dX9_putInBier_34 : decode cX9_putInBier 34 = .ok (.iconst (-1), 1) := by decide +kernel
theorem dX9_putInBier_35 : decode cX9_putInBier 35 = .ok (.iastore, 1) := by decide +kernel
theorem dX9_putInBier_36 : decode cX9_putInBier 36 = .ok (.aload_n 0, 1) := by decide +kernel
theorem dX9_putInBier_37 : decode cX9_putInBier 37 = .ok (.getfield 27, 3) := by decide +kernel
theorem dX9_putInBier_40 : decode cX9_putInBier 40 = .ok (.iload_n 1, 1) := by decide +kernel
theorem dX9_putInBier_41 : decode cX9_putInBier 41 = .ok (.iload_n 2, 1) := by decide +kernel
theorem dX9_putInBier_42 : decode cX9_putInBier 42 = .ok (.iastore, 1) := by decide +kernel
theorem dX9_putInBier_43 : decode cX9_putInBier 43 = .ok (.aload_n 0, 1) := by decide +kernel
theorem dX9_putInBier_44 : decode cX9_putInBier 44 = .ok (.getfield 42, 3) := by decide +kernel
theorem dX9_putInBier_47 : decode cX9_putInBier 47 = .ok (.iload_n 1, 1) := by decide +kernel
theorem dX9_putInBier_48 : decode cX9_putInBier 48 = .ok (.dup2, 1) := by decide +kernel
theorem dX9_putInBier_49 : decode cX9_putInBier 49 = .ok (.iaload, 1) := by decide +kernel
theorem dX9_putInBier_50 : decode cX9_putInBier 50 = .ok (.iconst 1, 1) := by decide +kernel
theorem dX9_putInBier_51 : decode cX9_putInBier 51 = .ok (.iadd, 1) := by decide +kernel
theorem dX9_putInBier_52 : decode cX9_putInBier 52 = .ok (.iastore, 1) := by decide +kernel
theorem dX9_putInBier_53 : decode cX9_putInBier 53 = .ok (.aload_n 0, 1) := by decide +kernel
theorem dX9_putInBier_54 : decode cX9_putInBier 54 = .ok (.getfield 21, 3) := by decide +kernel
theorem dX9_putInBier_57 : decode cX9_putInBier 57 = .ok (.iload_n 2, 1) := by decide +kernel
theorem dX9_putInBier_58 : decode cX9_putInBier 58 = .ok (.dup2, 1) := by decide +kernel
theorem dX9_putInBier_59 : decode cX9_putInBier 59 = .ok (.iaload, 1) := by decide +kernel
theorem dX9_putInBier_60 : decode cX9_putInBier 60 = .ok (.iconst 1, 1) := by decide +kernel
theorem dX9_putInBier_61 : decode cX9_putInBier 61 = .ok (.iadd, 1) := by decide +kernel
theorem dX9_putInBier_62 : decode cX9_putInBier 62 = .ok (.iastore, 1) := by decide +kernel
theorem dX9_putInBier_63 : decode cX9_putInBier 63 = .ok (.return_, 1) := by decide +kernel
theorem dX9_putHome_0 : decode cX9_putHome 0 = .ok (.aload_n 0, 1) := by decide +kernel
theorem dX9_putHome_1 : decode cX9_putHome 1 = .ok (.iload_n 1, 1) := by decide +kernel
theorem dX9_putHome_2 : decode cX9_putHome 2 = .ok (.iconst (-1), 1) := by decide +kernel
theorem dX9_putHome_3 : decode cX9_putHome 3 = .ok (.invokevirtual 89, 3) := by decide +kernel
theorem dX9_putHome_6 : decode cX9_putHome 6 = .ok (.aload_n 0, 1) := by decide +kernel
theorem dX9_putHome_7 : decode cX9_putHome 7 = .ok (.getfield 30, 3) := by decide +kernel
theorem dX9_putHome_10 : decode cX9_putHome 10 = .ok (.iload_n 1, 1) := by decide +kernel
theorem dX9_putHome_11 : decode cX9_putHome 11 = .ok (.aload_n 0, 1) := by decide +kernel
theorem dX9_putHome_12 : decode cX9_putHome 12 = .ok (.getfield 45, 3) := by decide +kernel
theorem dX9_putHome_15 : decode cX9_putHome 15 = .ok (.iastore, 1) := by decide +kernel
theorem dX9_putHome_16 : decode cX9_putHome 16 = .ok (.return_, 1) := by decide +kernel
theorem dX9_comeOutOf_0 : decode cX9_comeOutOf 0 = .ok (.iload_n 1, 1) := by decide +kernel
theorem dX9_comeOutOf_1 : decode cX9_comeOutOf 1 = .ok (.ifCond .lt 19, 3) := by decide +kernel
theorem dX9_comeOutOf_4 : decode cX9_comeOutOf 4 = .ok (.iload_n 1, 1) := by decide +kernel
theorem dX9_comeOutOf_5 : decode cX9_comeOutOf 5 = .ok (.bipush 6, 2) := by decide +kernel
theorem dX9_comeOutOf_7 : decode cX9_comeOutOf 7 = .ok (.if_icmp .ge 13, 3) := by decide +kernel
theorem dX9_comeOutOf_10 : decode cX9_comeOutOf 10 = .ok (.aload_n 0, 1) := by decide +kernel
theorem dX9_comeOutOf_11 : decode cX9_comeOutOf 11 = .ok (.getfield 21, 3) := by decide +kernel
theorem dX9_comeOutOf_14 : decode cX9_comeOutOf 14 = .ok (.iload_n 1, 1) := by decide +kernel
theorem dX9_comeOutOf_15 : decode cX9_comeOutOf 15 = .ok (.dup2, 1) := by decide +kernel
theorem dX9_comeOutOf_16 : decode cX9_comeOutOf 16 = .ok (.iaload, 1) := by decide +kernel
theorem dX9_comeOutOf_17 : decode cX9_comeOutOf 17 = .ok (.iconst 1, 1) := by decide +kernel
theorem dX9_comeOutOf_18 : decode cX9_comeOutOf 18 = .ok (.isub, 1) := by decide +kernel
theorem dX9_comeOutOf_19 : decode cX9_comeOutOf 19 = .ok (.iastore, 1) := by decide +kernel
theorem dX9_comeOutOf_20 : decode cX9_comeOutOf 20 = .ok (.return_, 1) := by decide +kernel
theorem dX10_init_0 : decode cX10_init 0 = .ok (.aload_n 0, 1) := by decide +kernel
theorem dX10_init_1 : decode cX10_init 1 = .ok (.invokespecial 3, 3) := by decide +kernel
theorem dX10_init_4 : decode cX10_init 4 = .ok (.aload_n 0, 1) := by decide +kernel
theorem dX10_init_5 : decode cX10_init 5 = .ok (.sipush 1600, 3) := by decide +kernel
theorem dX10_init_8 : decode cX10_init 8 = .ok (.newarray .byte, 2) := by decide +kernel
theorem dX10_init_10 : decode cX10_init 10 = .ok (.putfield 9, 3) := by decide +kernel
theorem dX10_init_13 : decode cX10_init 13 = .ok (.aload_n 0, 1) := by decide +kernel
theorem dX10_init_14 : decode cX10_init 14 = .ok (.sipush 1601, 3) := by decide +kernel
theorem dX10_init_17 : decode cX10_init 17 = .ok (.newarray .int, 2) := by decide +kernel
theorem dX10_init_19 : decode cX10_init 19 = .ok (.putfield 15, 3) := by decide +kernel
theorem dX10_init_22 : decode cX10_init 22 = .ok (.aload_n 0, 1) := by decide +kernel
theorem dX10_init_23 : decode cX10_init 23 = .ok (.sipush 1601, 3) := by decide +kernel
theorem dX10_init_26 : decode cX10_init 26 = .ok (.newarray .long, 2) := by decide +kernel
theorem dX10_init_28 : decode cX10_init 28 = .ok (.putfield 19, 3) := by decide +kernel
theorem dX10_init_31 : decode cX10_init 31 = .ok (.aload_n 0, 1) := by decide +kernel
theorem dX10_init_32 : decode cX10_init 32 = .ok (.sipush 1601, 3) := by decide +kernel
theorem dX10_init_35 : decode cX10_init 35 = .ok (.newarray .int, 2) := by decide +kernel
theorem dX10_init_37 : decode cX10_init 37 = .ok (.putfield 23, 3) := by decide +kernel
theorem dX10_init_40 : decode cX10_init 40 = .ok (.aload_n 0, 1) := by decide +kernel
theorem dX10_init_41 : decode cX10_init 41 = .ok (.bipush 19, 2) := by decide +kernel
theorem dX10_init_43 : decode cX10_init 43 = .ok (.newarray .long, 2) := by decide +kernel
theorem dX10_init_45 : decode cX10_init 45 = .ok (.putfield 26, 3) := by decide +kernel
theorem dX10_init_48 : decode cX10_init 48 = .ok (.iconst 0, 1) := by decide +kernel
theorem dX10_init_49 : decode cX10_init 49 = .ok (.istore_n 1, 1) := by decide +kernel
theorem dX10_init_50 : decode cX10_init 50 = .ok (.lconst 0, 1) := by decide +kernel
theorem dX10_init_51 : decode cX10_init 51 = .ok (.lstore_n 2, 1) := by decide +kernel
theorem dX10_init_52 : decode cX10_init 52 = .ok (.iconst 0, 1) := by decide +kernel
theorem dX10_init_53 : decode cX10_init 53 = .ok (.istore 4, 2) := by decide +kernel
theorem dX10_init_55 : decode cX10_init 55 = .ok (.iload 4, 2) := by decide +kernel
theorem dX10_init_57 : decode cX10_init 57 = .ok (.ldc 29, 2) := by decide +kernel
theorem dX10_init_59 : decode cX10_init 59 = .ok (.invokevirtual 31, 3) := by decide +kernel
theorem dX10_init_62 : decode cX10_init 62 = .ok (.if_icmp .ge 56, 3) := by decide +kernel
theorem dX10_init_65 : decode cX10_init 65 = .ok (.ldc 29, 2) := by decide +kernel
theorem dX10_init_67 : decode cX10_init 67 = .ok (.iload 4, 2) := by decide +kernel
theorem dX10_init_69 : decode cX10_init 69 = .ok (.invokevirtual 37, 3) := by decide +kernel
theorem dX10_init_72 : decode cX10_init 72 = .ok (.istore 5, 2) := by decide +kernel
theorem dX10_init_74 : decode cX10_init 74 = .ok (.iload 5, 2) := by decide +kernel
theorem dX10_init_76 : decode cX10_init 76 = .ok (.bipush 32, 2) := by decide +kernel
theorem dX10_init_78 : decode cX10_init 78 = .ok (.if_icmp .eq 13, 3) := by decide +kernel
theorem dX10_init_81 : decode cX10_init 81 = .ok (.lload_n 2, 1) := by decide +kernel
theorem dX10_init_82 : decode cX10_init 82 = .ok (.iload 5, 2) := by decide +kernel
theorem dX10_init_84 : decode cX10_init 84 = .ok (.invokestatic 41, 3) := by decide +kernel
theorem dX10_init_87 : decode cX10_init 87 = .ok (.lstore_n 2, 1) := by decide +kernel
theorem dX10_init_88 : decode cX10_init 88 = .ok (.goto 24, 3) := by decide +kernel
theorem dX10_init_91 : decode cX10_init 91 = .ok (.iload_n 1, 1) := by decide +kernel
theorem dX10_init_92 : decode cX10_init 92 = .ok (.aload_n 0, 1) := by decide +kernel
theorem dX10_init_93 : decode cX10_init 93 = .ok (.getfield 26, 3) := by decide +kernel
theorem dX10_init_96 : decode cX10_init 96 = .ok (.arraylength, 1) := by decide +kernel
theorem dX10_init_97 : decode cX10_init 97 = .ok (.if_icmp .ge 15, 3) := by decide +kernel
theorem dX10_init_100 : decode cX10_init 100 = .ok (.aload_n 0, 1) := by decide +kernel
theorem dX10_init_101 : decode cX10_init 101 = .ok (.getfield 26, 3) := by decide +kernel
theorem dX10_init_104 : decode cX10_init 104 = .ok (.iload_n 1, 1) := by decide +kernel
theorem dX10_init_105 : decode cX10_init 105 = .ok (.lload_n 2, 1) := by decide +kernel
theorem dX10_init_106 : decode cX10_init 106 = .ok (.lastore, 1) := by decide +kernel
theorem dX10_init_107 : decode cX10_init 107 = .ok (.iinc 1 1, 3) := by decide +kernel
theorem dX10_init_110 : decode cX10_init 110 = .ok (.lconst 0, 1) := by decide +kernel
theorem dX10_init_111 : decode cX10_init 111 = .ok (.lstore_n 2, 1) := by decide +kernel
theorem dX10_init_112 : decode cX10_init 112 = .ok (.iinc 4 1, 3) := by decide +kernel
theorem dX10_init_115 : decode cX10_init 115 = .ok (.goto (-60), 3) := by decide +kernel
theorem dX10_init_118 : decode cX10_init 118 = .ok (.return_, 1) := by decide +kernel
theorem dX10_putFour_0 : decode cX10_putFour 0 = .ok (.bipush 24, 2) := by decide +kernel
theorem dX10_putFour_2 : decode cX10_putFour 2 = .ok (.istore_n 2, 1) := by decide +kernel
theorem dX10_putFour_3 : decode cX10_putFour 3 = .ok (.iload_n 2, 1) := by decide +kernel
theorem dX10_putFour_4 : decode cX10_putFour 4 = .ok (.ifCond .lt 51, 3) := by decide +kernel
theorem dX10_putFour_7 : decode cX10_putFour 7 = .ok (.aload_n 0, 1) := by decide +kernel
theorem dX10_putFour_8 : decode cX10_putFour 8 = .ok (.getfield 45, 3) := by decide +kernel
theorem dX10_putFour_11 : decode cX10_putFour 11 = .ok (.ifCond .lt 38, 3) := by decide +kernel
theorem dX10_putFour_14 : decode cX10_putFour 14 = .ok (.aload_n 0, 1) := by decide +kernel
theorem dX10_putFour_15 : decode cX10_putFour 15 = .ok (.getfield 45, 3) := by decide +kernel
theorem dX10_putFour_18 : decode cX10_putFour 18 = .ok (.aload_n 0, 1) := by decide +kernel
theorem dX10_putFour_19 : decode cX10_putFour 19 = .ok (.getfield 9, 3) := by decide +kernel
theorem dX10_putFour_22 : decode cX10_putFour 22 = .ok (.arraylength, 1) := by decide +kernel
theorem dX10_putFour_23 : decode cX10_putFour 23 = .ok (.if_icmp .ge 26, 3) := by decide +kernel
theorem dX10_putFour_26 : decode cX10_putFour 26 = .ok (.aload_n 0, 1) := by decide +kernel
theorem dX10_putFour_27 : decode cX10_putFour 27 = .ok (.getfield 9, 3) := by decide +kernel
theorem dX10_putFour_30 : decode cX10_putFour 30 = .ok (.aload_n 0, 1) := by decide +kernel
theorem dX10_putFour_31 : decode cX10_putFour 31 = .ok (.getfield 45, 3) := by decide +kernel
theorem dX10_putFour_34 : decode cX10_putFour 34 = .ok (.iload_n 1, 1) := by decide +kernel
theorem dX10_putFour_35 : decode cX10_putFour 35 = .ok (.iload_n 2, 1) := by decide +kernel
theorem dX10_putFour_36 : decode cX10_putFour 36 = .ok (.ishr, 1) := by decide +kernel
theorem dX10_putFour_37 : decode cX10_putFour 37 = .ok (.i2b, 1) := by decide +kernel
theorem dX10_putFour_38 : decode cX10_putFour 38 = .ok (.bastore, 1) := by decide +kernel
theorem dX10_putFour_39 : decode cX10_putFour 39 = .ok (.aload_n 0, 1) := by decide +kernel
theorem dX10_putFour_40 : decode cX10_putFour 40 = .ok (.dup, 1) := by decide +kernel
theorem dX10_putFour_41 : decode cX10_putFour 41 = .ok (.getfield 45, 3) := by decide +kernel
theorem dX10_putFour_44 : decode cX10_putFour 44 = .ok (.iconst 1, 1) := by decide +kernel
theorem dX10_putFour_45 : decode cX10_putFour 45 = .ok (.iadd, 1) := by decide +kernel
theorem dX10_putFour_46 : decode cX10_putFour 46 = .ok (.putfield 45, 3) := by decide +kernel
theorem dX10_putFour_49 : decode cX10_putFour 49 = .ok (.iinc 2 (-8), 3) := by decide +kernel
theorem dX10_putFour_52 : decode cX10_putFour 52 = .ok (.goto (-49), 3) := by decide +kernel
theorem dX10_putFour_55 : decode cX10_putFour 55 = .ok (.return_, 1) := by decide +kernel
theorem dX10_split_0 : decode cX10_split 0 = .ok (.aload_n 0, 1) := by decide +kernel
theorem dX10_split_1 : decode cX10_split 1 = .ok (.iconst 0, 1) := by decide +kernel
theorem dX10_split_2 : decode cX10_split 2 = .ok (.putfield 48, 3) := by decide +kernel
theorem dX10_split_5 : decode cX10_split 5 = .ok (.iconst 0, 1) := by decide +kernel
theorem dX10_split_6 : decode cX10_split 6 = .ok (.istore_n 1, 1) := by decide +kernel
theorem dX10_split_7 : decode cX10_split 7 = .ok (.iconst 0, 1) := by decide +kernel
theorem dX10_split_8 : decode cX10_split 8 = .ok (.istore_n 2, 1) := by decide +kernel
theorem dX10_split_9 : decode cX10_split 9 = .ok (.iload_n 2, 1) := by decide +kernel
theorem dX10_split_10 : decode cX10_split 10 = .ok (.sipush 1600, 3) := by decide +kernel
theorem dX10_split_13 : decode cX10_split 13 = .ok (.if_icmp .ge 104, 3) := by decide +kernel
theorem dX10_split_16 : decode cX10_split 16 = .ok (.iload_n 1, 1) := by decide +kernel
theorem dX10_split_17 : decode cX10_split 17 = .ok (.aload_n 0, 1) := by decide +kernel
theorem dX10_split_18 : decode cX10_split 18 = .ok (.getfield 45, 3) := by decide +kernel
theorem dX10_split_21 : decode cX10_split 21 = .ok (.if_icmp .ge 96, 3) := by decide +kernel
theorem dX10_split_24 : decode cX10_split 24 = .ok (.aload_n 0, 1) := by decide +kernel
theorem dX10_split_25 : decode cX10_split 25 = .ok (.iload_n 1, 1) := by decide +kernel
theorem dX10_split_26 : decode cX10_split 26 = .ok (.invokevirtual 51, 3) := by decide +kernel
theorem dX10_split_29 : decode cX10_split 29 = .ok (.istore_n 3, 1) := by decide +kernel
theorem dX10_split_30 : decode cX10_split 30 = .ok (.iload_n 3, 1) := by decide +kernel
theorem dX10_split_31 : decode cX10_split 31 = .ok (.bipush 32, 2) := by decide +kernel
theorem dX10_split_33 : decode cX10_split 33 = .ok (.if_icmp .eq 9, 3) := by decide +kernel
theorem dX10_split_36 : decode cX10_split 36 = .ok (.iload_n 3, 1) := by decide +kernel
theorem dX10_split_37 : decode cX10_split 37 = .ok (.bipush 10, 2) := by decide +kernel
theorem dX10_split_39 : decode cX10_split 39 = .ok (.if_icmp .ne 9, 3) := by decide +kernel
theorem dX10_split_42 : decode cX10_split 42 = .ok (.iinc 1 1, 3) := by decide +kernel
theorem dX10_split_45 : decode cX10_split 45 = .ok (.goto 66, 3) := by decide +kernel
theorem dX10_split_48 : decode cX10_split 48 = .ok (.iload_n 3, 1) := by decide +kernel
theorem dX10_split_49 : decode cX10_split 49 = .ok (.invokestatic 55, 3) := by decide +kernel
theorem dX10_split_52 : decode cX10_split 52 = .ok (.ifCond .eq 12, 3) := by decide +kernel
theorem dX10_split_55 : decode cX10_split 55 = .ok (.aload_n 0, 1) := by decide +kernel
theorem dX10_split_56 : decode cX10_split 56 = .ok (.iload_n 1, 1) := by decide +kernel
theorem dX10_split_57 : decode cX10_split 57 = .ok (.invokevirtual 59, 3) := by decide +kernel
theorem dX10_split_60 : decode cX10_split 60 = .ok (.istore_n 1, 1) := by decide +kernel
theorem dX10_split_61 : decode cX10_split 61 = .ok (.goto 50, 3) := by decide +kernel
theorem dX10_split_64 : decode cX10_split 64 = .ok (.iload_n 3, 1) := by decide +kernel
theorem dX10_split_65 : decode cX10_split 65 = .ok (.invokestatic 62, 3) := by decide +kernel
theorem dX10_split_68 : decode cX10_split 68 = .ok (.ifCond .eq 12, 3) := by decide +kernel
theorem dX10_split_71 : decode cX10_split 71 = .ok (.aload_n 0, 1) := by decide +kernel
theorem dX10_split_72 : decode cX10_split 72 = .ok (.iload_n 1, 1) := by decide +kernel
theorem dX10_split_73 : decode cX10_split 73 = .ok (.invokevirtual 65, 3) := by decide +kernel
theorem dX10_split_76 : decode cX10_split 76 = .ok (.istore_n 1, 1) := by decide +kernel
theorem dX10_split_77 : decode cX10_split 77 = .ok (.goto 34, 3) := by decide +kernel
theorem dX10_split_80 : decode cX10_split 80 = .ok (.ldc 68, 2) := by decide +kernel
theorem dX10_split_82 : decode cX10_split 82 = .ok (.iload_n 3, 1) := by decide +kernel
theorem dX10_split_83 : decode cX10_split 83 = .ok (.i2c, 1) := by decide +kernel
theorem dX10_split_84 : decode cX10_split 84 = .ok (.invokevirtual 70, 3) := by decide +kernel
theorem dX10_split_87 : decode cX10_split 87 = .ok (.istore 4, 2) := by decide +kernel
theorem dX10_split_89 : decode cX10_split 89 = .ok (.aload_n 0, 1) := by decide +kernel
theorem dX10_split_90 : decode cX10_split 90 = .ok (.iload 4, 2) := by decide +kernel
theorem dX10_split_92 : decode cX10_split 92 = .ok (.ifCond .ge 7, 3) := by decide +kernel
theorem dX10_split_95 : decode cX10_split 95 = .ok (.iconst 1, 1) := by decide +kernel
theorem dX10_split_96 : decode cX10_split 96 = .ok (.goto 7, 3) := by decide +kernel
theorem dX10_split_99 : decode cX10_split 99 = .ok (.iconst 4, 1) := by decide +kernel
theorem dX10_split_100 : decode cX10_split 100 = .ok (.iload 4, 2) := by decide +kernel
theorem dX10_split_102 : decode cX10_split 102 = .ok (.iadd, 1) := by decide +kernel
theorem dX10_split_103 : decode cX10_split 103 = .ok (.lconst 0, 1) := by decide +kernel
theorem dX10_split_104 : decode cX10_split 104 = .ok (.iload_n 1, 1) := by decide +kernel
theorem dX10_split_105 : decode cX10_split 105 = .ok (.invokevirtual 73, 3) := by decide +kernel
theorem dX10_split_108 : decode cX10_split 108 = .ok (.iinc 1 1, 3) := by decide +kernel
theorem dX10_split_111 : decode cX10_split 111 = .ok (.iinc 2 1, 3) := by decide +kernel
theorem dX10_split_114 : decode cX10_split 114 = .ok (.goto (-105), 3) := by decide +kernel
theorem dX10_split_117 : decode cX10_split 117 = .ok (.aload_n 0, 1) := by decide +kernel
theorem dX10_split_118 : decode cX10_split 118 = .ok (.iconst 0, 1) := by decide +kernel
theorem dX10_split_119 : decode cX10_split 119 = .ok (.lconst 0, 1) := by decide +kernel
theorem dX10_split_120 : decode cX10_split 120 = .ok (.aload_n 0, 1) := by decide +kernel
theorem dX10_split_121 : decode cX10_split 121 = .ok (.getfield 45, 3) := by decide +kernel
theorem dX10_split_124 : decode cX10_split 124 = .ok (.invokevirtual 73, 3) := by decide +kernel
theorem dX10_split_127 : decode cX10_split 127 = .ok (.return_, 1) := by decide +kernel
theorem dX10_kindAt_0 : decode cX10_kindAt 0 = .ok (.iload_n 1, 1) := by decide +kernel
theorem dX10_kindAt_1 : decode cX10_kindAt 1 = .ok (.ifCond .lt 20, 3) := by decide +kernel
theorem dX10_kindAt_4 : decode cX10_kindAt 4 = .ok (.iload_n 1, 1) := by decide +kernel
theorem dX10_kindAt_5 : decode cX10_kindAt 5 = .ok (.aload_n 0, 1) := by decide +kernel
theorem dX10_kindAt_6 : decode cX10_kindAt 6 = .ok (.getfield 48, 3) := by decide +kernel
theorem dX10_kindAt_9 : decode cX10_kindAt 9 = .ok (.if_icmp .ge 12, 3) := by decide +kernel
theorem dX10_kindAt_12 : decode cX10_kindAt 12 = .ok (.aload_n 0, 1) := by decide +kernel
theorem dX10_kindAt_13 : decode cX10_kindAt 13 = .ok (.getfield 15, 3) := by decide +kernel
theorem dX10_kindAt_16 : decode cX10_kindAt 16 = .ok (.iload_n 1, 1) := by decide +kernel
theorem dX10_kindAt_17 : decode cX10_kindAt 17 = .ok (.iaload, 1) := by decide +kernel
theorem dX10_kindAt_18 : decode cX10_kindAt 18 = .ok (.goto 4, 3) := by decide +kernel
theorem dX10_kindAt_21 : decode cX10_kindAt 21 = .ok (.iconst 0, 1) := by decide +kernel
theorem dX10_kindAt_22 : decode cX10_kindAt 22 = .ok (.ireturn, 1) := by decide +kernel
theorem dX10_valueAt_0 : decode cX10_valueAt 0 = .ok (.iload_n 1, 1) := by decide +kernel
theorem dX10_valueAt_1 : decode cX10_valueAt 1 = .ok (.ifCond .lt 20, 3) := by decide +kernel
theorem dX10_valueAt_4 : decode cX10_valueAt 4 = .ok (.iload_n 1, 1) := by decide +kernel
theorem dX10_valueAt_5 : decode cX10_valueAt 5 = .ok (.aload_n 0, 1) := by decide +kernel
theorem dX10_valueAt_6 : decode cX10_valueAt 6 = .ok (.getfield 48, 3) := by decide +kernel
theorem dX10_valueAt_9 : decode cX10_valueAt 9 = .ok (.if_icmp .ge 12, 3) := by decide +kernel
theorem dX10_valueAt_12 : decode cX10_valueAt 12 = .ok (.aload_n 0, 1) := by decide +kernel
theorem dX10_valueAt_13 : decode cX10_valueAt 13 = .ok (.getfield 19, 3) := by decide +kernel
theorem dX10_valueAt_16 : decode cX10_valueAt 16 = .ok (.iload_n 1, 1) := by decide +kernel
theorem dX10_valueAt_17 : decode cX10_valueAt 17 = .ok (.laload, 1) := by decide +kernel
theorem dX10_valueAt_18 : decode cX10_valueAt 18 = .ok (.goto 4, 3) := by decide +kernel
theorem dX10_valueAt_21 : decode cX10_valueAt 21 = .ok (.lconst 0, 1) := by decide +kernel
theorem dX10_valueAt_22 : decode cX10_valueAt 22 = .ok (.lreturn, 1) := by decide +kernel
theorem dX10_placeAt_0 : decode cX10_placeAt 0 = .ok (.iload_n 1, 1) := by decide +kernel
theorem dX10_placeAt_1 : decode cX10_placeAt 1 = .ok (.ifCond .lt 20, 3) := by decide +kernel
theorem dX10_placeAt_4 : decode cX10_placeAt 4 = .ok (.iload_n 1, 1) := by decide +kernel
theorem dX10_placeAt_5 : decode cX10_placeAt 5 = .ok (.aload_n 0, 1) := by decide +kernel
theorem dX10_placeAt_6 : decode cX10_placeAt 6 = .ok (.getfield 48, 3) := by decide +kernel
theorem dX10_placeAt_9 : decode cX10_placeAt 9 = .ok (.if_icmp .ge 12, 3) := by decide +kernel
theorem dX10_placeAt_12 : decode cX10_placeAt 12 = .ok (.aload_n 0, 1) := by decide +kernel
theorem dX10_placeAt_13 : decode cX10_placeAt 13 = .ok (.getfield 23, 3) := by decide +kernel
theorem dX10_placeAt_16 : decode cX10_placeAt 16 = .ok (.iload_n 1, 1) := by decide +kernel
theorem dX10_placeAt_17 : decode cX10_placeAt 17 = .ok (.iaload, 1) := by decide +kernel
theorem dX10_placeAt_18 : decode cX10_placeAt 18 = .ok (.goto 7, 3) := by decide +kernel
theorem dX10_placeAt_21 : decode cX10_placeAt 21 = .ok (.aload_n 0, 1) := by decide +kernel
theorem dX10_placeAt_22 : decode cX10_placeAt 22 = .ok (.getfield 45, 3) := by decide +kernel
theorem dX10_placeAt_25 : decode cX10_placeAt 25 = .ok (.ireturn, 1) := by decide +kernel
theorem dX10_byteAt_0 : decode cX10_byteAt 0 = .ok (.iload_n 1, 1) := by decide +kernel
theorem dX10_byteAt_1 : decode cX10_byteAt 1 = .ok (.ifCond .lt 33, 3) := by decide +kernel
theorem dX10_byteAt_4 : decode cX10_byteAt 4 = .ok (.iload_n 1, 1) := by decide +kernel
theorem dX10_byteAt_5 : decode cX10_byteAt 5 = .ok (.aload_n 0, 1) := by decide +kernel
theorem dX10_byteAt_6 : decode cX10_byteAt 6 = .ok (.getfield 45, 3) := by decide +kernel
theorem dX10_byteAt_9 : decode cX10_byteAt 9 = .ok (.if_icmp .ge 25, 3) := by decide +kernel
theorem dX10_byteAt_12 : decode cX10_byteAt 12 = .ok (.iload_n 1, 1) := by decide +kernel
theorem dX10_byteAt_13 : decode cX10_byteAt 13 = .ok (.aload_n 0, 1) := by decide +kernel
theorem dX10_byteAt_14 : decode cX10_byteAt 14 = .ok (.getfield 9, 3) := by decide +kernel
theorem dX10_byteAt_17 : decode cX10_byteAt 17 = .ok (.arraylength, 1) := by decide +kernel
theorem dX10_byteAt_18 : decode cX10_byteAt 18 = .ok (.if_icmp .ge 16, 3) := by decide +kernel
theorem dX10_byteAt_21 : decode cX10_byteAt 21 = .ok (.aload_n 0, 1) := by decide +kernel
theorem dX10_byteAt_22 : decode cX10_byteAt 22 = .ok (.getfield 9, 3) := by decide +kernel
theorem dX10_byteAt_25 : decode cX10_byteAt 25 = .ok (.iload_n 1, 1) := by decide +kernel
theorem dX10_byteAt_26 : decode cX10_byteAt 26 = .ok (.baload, 1) := by decide +kernel
theorem dX10_byteAt_27 : decode cX10_byteAt 27 = .ok (.sipush 255, 3) := by decide +kernel
theorem dX10_byteAt_30 : decode cX10_byteAt 30 = .ok (.iand, 1) := by decide +kernel
theorem dX10_byteAt_31 : decode cX10_byteAt 31 = .ok (.goto 4, 3) := by decide +kernel
theorem dX10_byteAt_34 : decode cX10_byteAt 34 = .ok (.iconst 0, 1) := by decide +kernel
theorem dX10_byteAt_35 : decode cX10_byteAt 35 = .ok (.ireturn, 1) := by decide +kernel
theorem dX10_addWord_0 : decode cX10_addWord 0 = .ok (.lconst 0, 1) := by decide +kernel
theorem dX10_addWord_1 : decode cX10_addWord 1 = .ok (.lstore_n 2, 1) := by decide +kernel
theorem dX10_addWord_2 : decode cX10_addWord 2 = .ok (.iload_n 1, 1) := by decide +kernel
theorem dX10_addWord_3 : decode cX10_addWord 3 = .ok (.istore 4, 2) := by decide +kernel
theorem dX10_addWord_5 : decode cX10_addWord 5 = .ok (.iconst 0, 1) := by decide +kernel
theorem dX10_addWord_6 : decode cX10_addWord 6 = .ok (.istore 5, 2) := by decide +kernel
theorem dX10_addWord_8 : decode cX10_addWord 8 = .ok (.iload 5, 2) := by decide +kernel
theorem dX10_addWord_10 : decode cX10_addWord 10 = .ok (.sipush 1600, 3) := by decide +kernel
theorem dX10_addWord_13 : decode cX10_addWord 13 = .ok (.if_icmp .ge 35, 3) := by decide +kernel
theorem dX10_addWord_16 : decode cX10_addWord 16 = .ok (.aload_n 0, 1) := by decide +kernel
theorem dX10_addWord_17 : decode cX10_addWord 17 = .ok (.iload 4, 2) := by decide +kernel
theorem dX10_addWord_19 : decode cX10_addWord 19 = .ok (.invokevirtual 51, 3) := by decide +kernel
theorem dX10_addWord_22 : decode cX10_addWord 22 = .ok (.invokestatic 55, 3) := by decide +kernel
theorem dX10_addWord_25 : decode cX10_addWord 25 = .ok (.ifCond .eq 23, 3) := by decide +kernel
theorem dX10_addWord_28 : decode cX10_addWord 28 = .ok (.lload_n 2, 1) := by decide +kernel
theorem dX10_addWord_29 : decode cX10_addWord 29 = .ok (.aload_n 0, 1) := by decide +kernel
theorem dX10_addWord_30 : decode cX10_addWord 30 = .ok (.iload 4, 2) := by decide +kernel
theorem dX10_addWord_32 : decode cX10_addWord 32 = .ok (.invokevirtual 51, 3) := by decide +kernel
theorem dX10_addWord_35 : decode cX10_addWord 35 = .ok (.invokestatic 41, 3) := by decide +kernel
theorem dX10_addWord_38 : decode cX10_addWord 38 = .ok (.lstore_n 2, 1) := by decide +kernel
theorem dX10_addWord_39 : decode cX10_addWord 39 = .ok (.iinc 4 1, 3) := by decide +kernel
theorem dX10_addWord_42 : decode cX10_addWord 42 = .ok (.iinc 5 1, 3) := by decide +kernel
theorem dX10_addWord_45 : decode cX10_addWord 45 = .ok (.goto (-37), 3) := by decide +kernel
theorem dX10_addWord_48 : decode cX10_addWord 48 = .ok (.aload_n 0, 1) := by decide +kernel
theorem dX10_addWord_49 : decode cX10_addWord 49 = .ok (.iload 4, 2) := by decide +kernel
theorem dX10_addWord_51 : decode cX10_addWord 51 = .ok (.iload_n 1, 1) := by decide +kernel
theorem dX10_addWord_52 : decode cX10_addWord 52 = .ok (.isub, 1) := by decide +kernel
theorem dX10_addWord_53 : decode cX10_addWord 53 = .ok (.bipush 8, 2) := by decide +kernel
theorem dX10_addWord_55 : decode cX10_addWord 55 = .ok (.if_icmp .le 7, 3) := by decide +kernel
theorem dX10_addWord_58 : decode cX10_addWord 58 = .ok (.iconst 1, 1) := by decide +kernel
theorem dX10_addWord_59 : decode cX10_addWord 59 = .ok (.goto 8, 3) := by decide +kernel
theorem dX10_addWord_62 : decode cX10_addWord 62 = .ok (.aload_n 0, 1) := by decide +kernel
theorem dX10_addWord_63 : decode cX10_addWord 63 = .ok (.lload_n 2, 1) := by decide +kernel
theorem dX10_addWord_64 : decode cX10_addWord 64 = .ok (.invokevirtual 77, 3) := by decide +kernel
theorem dX10_addWord_67 : decode cX10_addWord 67 = .ok (.lload_n 2, 1) := by decide +kernel
theorem dX10_addWord_68 : decode cX10_addWord 68 = .ok (.iload_n 1, 1) := by decide +kernel
theorem dX10_addWord_69 : decode cX10_addWord 69 = .ok (.invokevirtual 73, 3) := by decide +kernel
theorem dX10_addWord_72 : decode cX10_addWord 72 = .ok (.iload 4, 2) := by decide +kernel
theorem dX10_addWord_74 : decode cX10_addWord 74 = .ok (.ireturn, 1) := by decide +kernel
theorem dX10_addNumber_0 : decode cX10_addNumber 0 = .ok (.iconst 0, 1) := by decide +kernel
theorem dX10_addNumber_1 : decode cX10_addNumber 1 = .ok (.istore_n 2, 1) := by decide +kernel
theorem dX10_addNumber_2 : decode cX10_addNumber 2 = .ok (.iload_n 1, 1) := by decide +kernel
theorem dX10_addNumber_3 : decode cX10_addNumber 3 = .ok (.istore_n 3, 1) := by decide +kernel
theorem dX10_addNumber_4 : decode cX10_addNumber 4 = .ok (.iconst 0, 1) := by decide +kernel
theorem dX10_addNumber_5 : decode cX10_addNumber 5 = .ok (.istore 4, 2) := by decide +kernel
theorem dX10_addNumber_7 : decode cX10_addNumber 7 = .ok (.iload 4, 2) := by decide +kernel
theorem dX10_addNumber_9 : decode cX10_addNumber 9 = .ok (.sipush 1600, 3) := by decide +kernel
theorem dX10_addNumber_12 : decode cX10_addNumber 12 = .ok (.if_icmp .ge 37, 3) := by decide +kernel
theorem dX10_addNumber_15 : decode cX10_addNumber 15 = .ok (.aload_n 0, 1) := by decide +kernel
theorem dX10_addNumber_16 : decode cX10_addNumber 16 = .ok (.iload_n 3, 1) := by decide +kernel
theorem dX10_addNumber_17 : decode cX10_addNumber 17 = .ok (.invokevirtual 51, 3) := by decide +kernel
theorem dX10_addNumber_20 : decode cX10_addNumber 20 = .ok (.invokestatic 62, 3) := by decide +kernel
theorem dX10_addNumber_23 : decode cX10_addNumber 23 = .ok (.ifCond .eq 26, 3) := by decide +kernel
theorem dX10_addNumber_26 : decode cX10_addNumber 26 = .ok (.iload_n 2, 1) := by decide +kernel
theorem dX10_addNumber_27 : decode cX10_addNumber 27 = .ok (.bipush 10, 2) := by decide +kernel
theorem dX10_addNumber_29 : decode cX10_addNumber 29 = .ok (.imul, 1) := by decide +kernel
theorem dX10_addNumber_30 : decode cX10_addNumber 30 = .ok (.aload_n 0, 1) := by decide +kernel
theorem dX10_addNumber_31 : decode cX10_addNumber 31 = .ok (.iload_n 3, 1) := by decide +kernel
theorem dX10_addNumber_32 : decode cX10_addNumber 32 = .ok (.invokevirtual 51, 3) := by decide +kernel
theorem dX10_addNumber_35 : decode cX10_addNumber 35 = .ok (.iadd, 1) := by decide +kernel
theorem dX10_addNumber_36 : decode cX10_addNumber 36 = .ok (.bipush 48, 2) := by decide +kernel
theorem dX10_addNumber_38 : decode cX10_addNumber 38 = .ok (.isub, 1) := by decide +kernel
theorem dX10_addNumber_39 : decode cX10_addNumber 39 = .ok (.istore_n 2, 1) := by decide +kernel
theorem dX10_addNumber_40 : decode cX10_addNumber 40 = .ok (.iinc 3 1, 3) := by decide +kernel
theorem dX10_addNumber_43 : decode cX10_addNumber 43 = .ok (.iinc 4 1, 3) := by decide +kernel
theorem dX10_addNumber_46 : decode cX10_addNumber 46 = .ok (.goto (-39), 3) := by decide +kernel
theorem dX10_addNumber_49 : decode cX10_addNumber 49 = .ok (.iload_n 3, 1) := by decide +kernel
theorem dX10_addNumber_50 : decode cX10_addNumber 50 = .ok (.iload_n 1, 1) := by decide +kernel
theorem dX10_addNumber_51 : decode cX10_addNumber 51 = .ok (.isub, 1) := by decide +kernel
theorem dX10_addNumber_52 : decode cX10_addNumber 52 = .ok (.iconst 4, 1) := by decide +kernel
theorem dX10_addNumber_53 : decode cX10_addNumber 53 = .ok (.if_icmp .gt 18, 3) := by decide +kernel
theorem dX10_addNumber_56 : decode cX10_addNumber 56 = .ok (.aload_n 0, 1) := by decide +kernel
theorem dX10_addNumber_57 : decode cX10_addNumber 57 = .ok (.iload_n 3, 1) := by decide +kernel
theorem dX10_addNumber_58 : decode cX10_addNumber 58 = .ok (.invokevirtual 51, 3) := by decide +kernel
theorem dX10_addNumber_61 : decode cX10_addNumber 61 = .ok (.invokestatic 55, 3) := by decide +kernel
theorem dX10_addNumber_64 : decode cX10_addNumber 64 = .ok (.ifCond .ne 7, 3) := by decide +kernel
theorem dX10_addNumber_67 : decode cX10_addNumber 67 = .ok (.iconst 1, 1) := by decide +kernel
theorem dX10_addNumber_68 : decode cX10_addNumber 68 = .ok (.goto 4, 3) := by decide +kernel
theorem dX10_addNumber_71 : decode cX10_addNumber 71 = .ok (.iconst 0, 1) := by decide +kernel
theorem dX10_addNumber_72 : decode cX10_addNumber 72 = .ok (.istore 4, 2) := by decide +kernel
theorem dX10_addNumber_74 : decode cX10_addNumber 74 = .ok (.aload_n 0, 1) := by decide +kernel
theorem dX10_addNumber_75 : decode cX10_addNumber 75 = .ok (.iload 4, 2) := by decide +kernel
theorem dX10_addNumber_77 : decode cX10_addNumber 77 = .ok (.ifCond .eq 7, 3) := by decide +kernel
theorem dX10_addNumber_80 : decode cX10_addNumber 80 = .ok (.iconst 3, 1) := by decide +kernel
theorem dX10_addNumber_81 : decode cX10_addNumber 81 = .ok (.goto 4, 3) := by decide +kernel
theorem dX10_addNumber_84 : decode cX10_addNumber 84 = .ok (.iconst 1, 1) := by decide +kernel
theorem dX10_addNumber_85 : decode cX10_addNumber 85 = .ok (.iload_n 2, 1) := by decide +kernel
theorem dX10_addNumber_86 : decode cX10_addNumber 86 = .ok (.i2l, 1) := by decide +kernel
theorem dX10_addNumber_87 : decode cX10_addNumber 87 = .ok (.iload_n 1, 1) := by decide +kernel
theorem dX10_addNumber_88 : decode cX10_addNumber 88 = .ok (.invokevirtual 73, 3) := by decide +kernel
theorem dX10_addNumber_91 : decode cX10_addNumber 91 = .ok (.iload_n 3, 1) := by decide +kernel
theorem dX10_addNumber_92 : decode cX10_addNumber 92 = .ok (.ireturn, 1) := by decide +kernel
theorem dX10_kindOfWord_0 : decode cX10_kindOfWord 0 = .ok (.iconst 0, 1) := by decide +kernel
theorem dX10_kindOfWord_1 : decode cX10_kindOfWord 1 = .ok (.istore_n 3, 1) := by decide +kernel
theorem dX10_kindOfWord_2 : decode cX10_kindOfWord 2 = .ok (.iload_n 3, 1) := by decide +kernel
theorem dX10_kindOfWord_3 : decode cX10_kindOfWord 3 = .ok (.aload_n 0, 1) := by decide +kernel
theorem dX10_kindOfWord_4 : decode cX10_kindOfWord 4 = .ok (.getfield 26, 3) := by decide +kernel
theorem dX10_kindOfWord_7 : decode cX10_kindOfWord 7 = .ok (.arraylength, 1) := by decide +kernel
theorem dX10_kindOfWord_8 : decode cX10_kindOfWord 8 = .ok (.if_icmp .ge 25, 3) := by decide +kernel
theorem dX10_kindOfWord_11 : decode cX10_kindOfWord 11 = .ok (.aload_n 0, 1) := by decide +kernel
theorem dX10_kindOfWord_12 : decode cX10_kindOfWord 12 = .ok (.getfield 26, 3) := by decide +kernel
theorem dX10_kindOfWord_15 : decode cX10_kindOfWord 15 = .ok (.iload_n 3, 1) := by decide +kernel
theorem dX10_kindOfWord_16 : decode cX10_kindOfWord 16 = .ok (.laload, 1) := by decide +kernel
theorem dX10_kindOfWord_17 : decode cX10_kindOfWord 17 = .ok (.lload_n 1, 1) := by decide +kernel
theorem dX10_kindOfWord_18 : decode cX10_kindOfWord 18 = .ok (.lcmp, 1) := by decide +kernel
theorem dX10_kindOfWord_19 : decode cX10_kindOfWord 19 = .ok (.ifCond .ne 8, 3) := by decide +kernel
theorem dX10_kindOfWord_22 : decode cX10_kindOfWord 22 = .ok (.bipush 15, 2) := by decide +kernel
theorem dX10_kindOfWord_24 : decode cX10_kindOfWord 24 = .ok (.iload_n 3, 1) := by decide +kernel
theorem dX10_kindOfWord_25 : decode cX10_kindOfWord 25 = .ok (.iadd, 1) := by decide +kernel
theorem dX10_kindOfWord_26 : decode cX10_kindOfWord 26 = .ok (.ireturn, 1) := by decide +kernel
theorem dX10_kindOfWord_27 : decode cX10_kindOfWord 27 = .ok (.iinc 3 1, 3) := by decide +kernel
theorem dX10_kindOfWord_30 : decode cX10_kindOfWord 30 = .ok (.goto (-28), 3) := by decide +kernel
theorem dX10_kindOfWord_33 : decode cX10_kindOfWord 33 = .ok (.iconst 2, 1) := by decide +kernel
theorem dX10_kindOfWord_34 : decode cX10_kindOfWord 34 = .ok (.ireturn, 1) := by decide +kernel
theorem dX10_add_0 : decode cX10_add 0 = .ok (.aload_n 0, 1) := by decide +kernel
theorem dX10_add_1 : decode cX10_add 1 = .ok (.getfield 48, 3) := by decide +kernel
theorem dX10_add_4 : decode cX10_add 4 = .ok (.ifCond .lt 56, 3) := by decide +kernel
theorem dX10_add_7 : decode cX10_add 7 = .ok (.aload_n 0, 1) := by decide +kernel
theorem dX10_add_8 : decode cX10_add 8 = .ok (.getfield 48, 3) := by decide +kernel
theorem dX10_add_11 : decode cX10_add 11 = .ok (.aload_n 0, 1) := by decide +kernel
theorem dX10_add_12 : decode cX10_add 12 = .ok (.getfield 15, 3) := by decide +kernel
theorem dX10_add_15 : decode cX10_add 15 = .ok (.arraylength, 1) := by decide +kernel
theorem dX10_add_16 : decode cX10_add 16 = .ok (.if_icmp .ge 44, 3) := by decide +kernel
theorem dX10_add_19 : decode cX10_add 19 = .ok (.aload_n 0, 1) := by decide +kernel
theorem dX10_add_20 : decode cX10_add 20 = .ok (.getfield 15, 3) := by decide +kernel
theorem dX10_add_23 : decode cX10_add 23 = .ok (.aload_n 0, 1) := by decide +kernel
theorem dX10_add_24 : decode cX10_add 24 = .ok (.getfield 48, 3) := by decide +kernel
theorem dX10_add_27 : decode cX10_add 27 = .ok (.iload_n 1, 1) := by decide +kernel
theorem dX10_add_28 : decode cX10_add 28 = .ok (.iastore, 1) := by decide +kernel
theorem dX10_add_29 : decode cX10_add 29 = .ok (.aload_n 0, 1) := by decide +kernel
theorem dX10_add_30 : decode cX10_add 30 = .ok (.getfield 19, 3) := by decide +kernel
theorem dX10_add_33 : decode cX10_add 33 = .ok (.aload_n 0, 1) := by decide +kernel
theorem dX10_add_34 : decode cX10_add 34 = .ok (.getfield 48, 3) := by decide +kernel
theorem dX10_add_37 : decode cX10_add 37 = .ok (.lload_n 2, 1) := by decide +kernel
theorem dX10_add_38 : decode cX10_add 38 = .ok (.lastore, 1) := by decide +kernel
theorem dX10_add_39 : decode cX10_add 39 = .ok (.aload_n 0, 1) := by decide +kernel
theorem dX10_add_40 : decode cX10_add 40 = .ok (.getfield 23, 3) := by decide +kernel
theorem dX10_add_43 : decode cX10_add 43 = .ok (.aload_n 0, 1) := by decide +kernel
theorem dX10_add_44 : decode cX10_add 44 = .ok (.getfield 48, 3) := by decide +kernel
theorem dX10_add_47 : decode cX10_add 47 = .ok (.iload 4, 2) := by decide +kernel
theorem dX10_add_49 : decode cX10_add 49 = .ok (.iastore, 1) := by decide +kernel
theorem dX10_add_50 : decode cX10_add 50 = .ok (.aload_n 0, 1) := by decide +kernel
theorem dX10_add_51 : decode cX10_add 51 = .ok (.dup, 1) := by decide +kernel
theorem dX10_add_52 : decode cX10_add 52 = .ok (.getfield 48, 3) := by decide +kernel
theorem dX10_add_55 : decode cX10_add 55 = .ok (.iconst 1, 1) := by decide +kernel
theorem dX10_add_56 : decode cX10_add 56 = .ok (.iadd, 1) := by decide +kernel
theorem dX10_add_57 : decode cX10_add 57 = .ok (.putfield 48, 3) := by decide +kernel
theorem dX10_add_60 : decode cX10_add 60 = .ok (.return_, 1) := by decide +kernel
theorem dX10_isLetter_0 : decode cX10_isLetter 0 = .ok (.iload_n 0, 1) := by decide +kernel
theorem dX10_isLetter_1 : decode cX10_isLetter 1 = .ok (.bipush 97, 2) := by decide +kernel
theorem dX10_isLetter_3 : decode cX10_isLetter 3 = .ok (.if_icmp .lt 13, 3) := by decide +kernel
theorem dX10_isLetter_6 : decode cX10_isLetter 6 = .ok (.iload_n 0, 1) := by decide +kernel
theorem dX10_isLetter_7 : decode cX10_isLetter 7 = .ok (.bipush 122, 2) := by decide +kernel
theorem dX10_isLetter_9 : decode cX10_isLetter 9 = .ok (.if_icmp .gt 7, 3) := by decide +kernel
theorem dX10_isLetter_12 : decode cX10_isLetter 12 = .ok (.iconst 1, 1) := by decide +kernel
theorem dX10_isLetter_13 : decode cX10_isLetter 13 = .ok (.goto 4, 3) := by decide +kernel
theorem dX10_isLetter_16 : decode cX10_isLetter 16 = .ok (.iconst 0, 1) := by decide +kernel
theorem dX10_isLetter_17 : decode cX10_isLetter 17 = .ok (.ireturn, 1) := by decide +kernel
theorem dX10_isDigit_0 : decode cX10_isDigit 0 = .ok (.iload_n 0, 1) := by decide +kernel
theorem dX10_isDigit_1 : decode cX10_isDigit 1 = .ok (.bipush 48, 2) := by decide +kernel
theorem dX10_isDigit_3 : decode cX10_isDigit 3 = .ok (.if_icmp .lt 13, 3) := by decide +kernel
theorem dX10_isDigit_6 : decode cX10_isDigit 6 = .ok (.iload_n 0, 1) := by decide +kernel
theorem dX10_isDigit_7 : decode cX10_isDigit 7 = .ok (.bipush 57, 2) := by decide +kernel
theorem dX10_isDigit_9 : decode cX10_isDigit 9 = .ok (.if_icmp .gt 7, 3) := by decide +kernel
theorem dX10_isDigit_12 : decode cX10_isDigit 12 = .ok (.iconst 1, 1) := by decide +kernel
theorem dX10_isDigit_13 : decode cX10_isDigit 13 = .ok (.goto 4, 3) := by decide +kernel
theorem dX10_isDigit_16 : decode cX10_isDigit 16 = .ok (.iconst 0, 1) := by decide +kernel
theorem dX10_isDigit_17 : decode cX10_isDigit 17 = .ok (.ireturn, 1) := by decide +kernel
theorem dX10_packedWith_0 : decode cX10_packedWith 0 = .ok (.lload_n 0, 1) := by decide +kernel
theorem dX10_packedWith_1 : decode cX10_packedWith 1 = .ok (.ldc2_w 81, 3) := by decide +kernel
theorem dX10_packedWith_4 : decode cX10_packedWith 4 = .ok (.lmul, 1) := by decide +kernel
theorem dX10_packedWith_5 : decode cX10_packedWith 5 = .ok (.iload_n 2, 1) := by decide +kernel
theorem dX10_packedWith_6 : decode cX10_packedWith 6 = .ok (.i2l, 1) := by decide +kernel
theorem dX10_packedWith_7 : decode cX10_packedWith 7 = .ok (.ladd, 1) := by decide +kernel
theorem dX10_packedWith_8 : decode cX10_packedWith 8 = .ok (.ldc2_w 83, 3) := by decide +kernel
theorem dX10_packedWith_11 : decode cX10_packedWith 11 = .ok (.lsub, 1) := by decide +kernel
theorem dX10_packedWith_12 : decode cX10_packedWith 12 = .ok (.lconst 1, 1) := by decide +kernel
theorem dX10_packedWith_13 : decode cX10_packedWith 13 = .ok (.ladd, 1) := by decide +kernel
theorem dX10_packedWith_14 : decode cX10_packedWith 14 = .ok (.lreturn, 1) := by decide +kernel
theorem dX11_init_0 : decode cX11_init 0 = .ok (.aload_n 0, 1) := by decide +kernel
theorem dX11_init_1 : decode cX11_init 1 = .ok (.invokespecial 1, 3) := by decide +kernel
theorem dX11_init_4 : decode cX11_init 4 = .ok (.aload_n 0, 1) := by decide +kernel
theorem dX11_init_5 : decode cX11_init 5 = .ok (.new 7, 3) := by decide +kernel
theorem dX11_init_8 : decode cX11_init 8 = .ok (.dup, 1) := by decide +kernel
theorem dX11_init_9 : decode cX11_init 9 = .ok (.invokespecial 9, 3) := by decide +kernel
theorem dX11_init_12 : decode cX11_init 12 = .ok (.putfield 10, 3) := by decide +kernel
theorem dX11_init_15 : decode cX11_init 15 = .ok (.aload_n 0, 1) := by decide +kernel
theorem dX11_init_16 : decode cX11_init 16 = .ok (.new 16, 3) := by decide +kernel
theorem dX11_init_19 : decode cX11_init 19 = .ok (.dup, 1) := by decide +kernel
theorem dX11_init_20 : decode cX11_init 20 = .ok (.invokespecial 18, 3) := by decide +kernel
theorem dX11_init_23 : decode cX11_init 23 = .ok (.putfield 19, 3) := by decide +kernel
theorem dX11_init_26 : decode cX11_init 26 = .ok (.aload_n 0, 1) := by decide +kernel
theorem dX11_init_27 : decode cX11_init 27 = .ok (.new 16, 3) := by decide +kernel
theorem dX11_init_30 : decode cX11_init 30 = .ok (.dup, 1) := by decide +kernel
theorem dX11_init_31 : decode cX11_init 31 = .ok (.invokespecial 18, 3) := by decide +kernel
theorem dX11_init_34 : decode cX11_init 34 = .ok (.putfield 23, 3) := by decide +kernel
theorem dX11_init_37 : decode cX11_init 37 = .ok (.aload_n 0, 1) := by decide +kernel
theorem dX11_init_38 : decode cX11_init 38 = .ok (.new 26, 3) := by decide +kernel
theorem dX11_init_41 : decode cX11_init 41 = .ok (.dup, 1) := by decide +kernel
theorem dX11_init_42 : decode cX11_init 42 = .ok (.aload_n 0, 1) := by decide +kernel
theorem dX11_init_43 : decode cX11_init 43 = .ok (.getfield 19, 3) := by decide +kernel
theorem dX11_init_46 : decode cX11_init 46 = .ok (.invokespecial 28, 3) := by decide +kernel
theorem dX11_init_49 : decode cX11_init 49 = .ok (.putfield 31, 3) := by decide +kernel
theorem dX11_init_52 : decode cX11_init 52 = .ok (.aload_n 0, 1) := by decide +kernel
theorem dX11_init_53 : decode cX11_init 53 = .ok (.new 35, 3) := by decide +kernel
theorem dX11_init_56 : decode cX11_init 56 = .ok (.dup, 1) := by decide +kernel
theorem dX11_init_57 : decode cX11_init 57 = .ok (.aload_n 0, 1) := by decide +kernel
theorem dX11_init_58 : decode cX11_init 58 = .ok (.getfield 31, 3) := by decide +kernel
theorem dX11_init_61 : decode cX11_init 61 = .ok (.invokespecial 37, 3) := by decide +kernel
theorem dX11_init_64 : decode cX11_init 64 = .ok (.putfield 40, 3) := by decide +kernel
theorem dX11_init_67 : decode cX11_init 67 = .ok (.aload_n 0, 1) := by decide +kernel
theorem dX11_init_68 : decode cX11_init 68 = .ok (.new 44, 3) := by decide +kernel
theorem dX11_init_71 : decode cX11_init 71 = .ok (.dup, 1) := by decide +kernel
theorem dX11_init_72 : decode cX11_init 72 = .ok (.invokespecial 46, 3) := by decide +kernel
theorem dX11_init_75 : decode cX11_init 75 = .ok (.putfield 47, 3) := by decide +kernel
theorem dX11_init_78 : decode cX11_init 78 = .ok (.aload_n 0, 1) := by decide +kernel
theorem dX11_init_79 : decode cX11_init 79 = .ok (.new 51, 3) := by decide +kernel
theorem dX11_init_82 : decode cX11_init 82 = .ok (.dup, 1) := by decide +kernel
theorem dX11_init_83 : decode cX11_init 83 = .ok (.invokespecial 53, 3) := by decide +kernel
theorem dX11_init_86 : decode cX11_init 86 = .ok (.putfield 54, 3) := by decide +kernel
theorem dX11_init_89 : decode cX11_init 89 = .ok (.aload_n 0, 1) := by decide +kernel
theorem dX11_init_90 : decode cX11_init 90 = .ok (.new 58, 3) := by decide +kernel
theorem dX11_init_93 : decode cX11_init 93 = .ok (.dup, 1) := by decide +kernel
theorem dX11_init_94 : decode cX11_init 94 = .ok (.invokespecial 60, 3) := by decide +kernel
theorem dX11_init_97 : decode cX11_init 97 = .ok (.putfield 61, 3) := by decide +kernel
theorem dX11_init_100 : decode cX11_init 100 = .ok (.aload_n 0, 1) := by decide +kernel
theorem dX11_init_101 : decode cX11_init 101 = .ok (.iconst 3, 1) := by decide +kernel
theorem dX11_init_102 : decode cX11_init 102 = .ok (.anewarray 44, 3) := by decide +kernel
theorem dX11_init_105 : decode cX11_init 105 = .ok (.putfield 65, 3) := by decide +kernel
theorem dX11_init_108 : decode cX11_init 108 = .ok (.iconst 0, 1) := by decide +kernel
theorem dX11_init_109 : decode cX11_init 109 = .ok (.istore_n 1, 1) := by decide +kernel
theorem dX11_init_110 : decode cX11_init 110 = .ok (.iload_n 1, 1) := by decide +kernel
theorem dX11_init_111 : decode cX11_init 111 = .ok (.iconst 3, 1) := by decide +kernel
theorem dX11_init_112 : decode cX11_init 112 = .ok (.if_icmp .ge 22, 3) := by decide +kernel
theorem dX11_init_115 : decode cX11_init 115 = .ok (.aload_n 0, 1) := by decide +kernel
theorem dX11_init_116 : decode cX11_init 116 = .ok (.getfield 65, 3) := by decide +kernel
theorem dX11_init_119 : decode cX11_init 119 = .ok (.iload_n 1, 1) := by decide +kernel
theorem dX11_init_120 : decode cX11_init 120 = .ok (.new 44, 3) := by decide +kernel
theorem dX11_init_123 : decode cX11_init 123 = .ok (.dup, 1) := by decide +kernel
theorem dX11_init_124 : decode cX11_init 124 = .ok (.invokespecial 46, 3) := by decide +kernel
theorem dX11_init_127 : decode cX11_init 127 = .ok (.aastore, 1) := by decide +kernel
theorem dX11_init_128 : decode cX11_init 128 = .ok (.iinc 1 1, 3) := by decide +kernel
theorem dX11_init_131 : decode cX11_init 131 = .ok (.goto (-21), 3) := by decide +kernel
theorem dX11_init_134 : decode cX11_init 134 = .ok (.aload_n 0, 1) := by decide +kernel
theorem dX11_init_135 : decode cX11_init 135 = .ok (.iconst 3, 1) := by decide +kernel
theorem dX11_init_136 : decode cX11_init 136 = .ok (.newarray .boolean, 2) := by decide +kernel
theorem dX11_init_138 : decode cX11_init 138 = .ok (.putfield 69, 3) := by decide +kernel
theorem dX11_init_141 : decode cX11_init 141 = .ok (.aload_n 0, 1) := by decide +kernel
theorem dX11_init_142 : decode cX11_init 142 = .ok (.sipush 300, 3) := by decide +kernel
theorem dX11_init_145 : decode cX11_init 145 = .ok (.newarray .int, 2) := by decide +kernel
theorem dX11_init_147 : decode cX11_init 147 = .ok (.putfield 73, 3) := by decide +kernel
theorem dX11_init_150 : decode cX11_init 150 = .ok (.aload_n 0, 1) := by decide +kernel
theorem dX11_init_151 : decode cX11_init 151 = .ok (.invokevirtual 77, 3) := by decide +kernel
theorem dX11_init_154 : decode cX11_init 154 = .ok (.return_, 1) := by decide +kernel
theorem dX11_feed_0 : decode cX11_feed 0 = .ok (.aload_n 0, 1) := by decide +kernel
theorem dX11_feed_1 : decode cX11_feed 1 = .ok (.getfield 10, 3) := by decide +kernel
theorem dX11_feed_4 : decode cX11_feed 4 = .ok (.getfield 80, 3) := by decide +kernel
theorem dX11_feed_7 : decode cX11_feed 7 = .ok (.astore 6, 2) := by decide +kernel
theorem dX11_feed_9 : decode cX11_feed 9 = .ok (.aload 6, 2) := by decide +kernel
theorem dX11_feed_11 : decode cX11_feed 11 = .ok (.getfield 84, 3) := by decide +kernel
theorem dX11_feed_14 : decode cX11_feed 14 = .ok (.bipush 20, 2) := by decide +kernel
theorem dX11_feed_16 : decode cX11_feed 16 = .ok (.iadd, 1) := by decide +kernel
theorem dX11_feed_17 : decode cX11_feed 17 = .ok (.sipush 1600, 3) := by decide +kernel
theorem dX11_feed_20 : decode cX11_feed 20 = .ok (.if_icmp .le 5, 3) := by decide +kernel
theorem dX11_feed_23 : decode cX11_feed 23 = .ok (.iconst (-1), 1) := by decide +kernel
theorem dX11_feed_24 : decode cX11_feed 24 = .ok (.ireturn, 1) := by decide +kernel
theorem dX11_feed_25 : decode cX11_feed 25 = .ok (.aload 6, 2) := by decide +kernel
theorem dX11_feed_27 : decode cX11_feed 27 = .ok (.iload_n 1, 1) := by decide +kernel
theorem dX11_feed_28 : decode cX11_feed 28 = .ok (.invokevirtual 90, 3) := by decide +kernel
theorem dX11_feed_31 : decode cX11_feed 31 = .ok (.aload 6, 2) := by decide +kernel
theorem dX11_feed_33 : decode cX11_feed 33 = .ok (.iload_n 2, 1) := by decide +kernel
theorem dX11_feed_34 : decode cX11_feed 34 = .ok (.invokevirtual 90, 3) := by decide +kernel
theorem dX11_feed_37 : decode cX11_feed 37 = .ok (.aload 6, 2) := by decide +kernel
theorem dX11_feed_39 : decode cX11_feed 39 = .ok (.iload_n 3, 1) := by decide +kernel
theorem dX11_feed_40 : decode cX11_feed 40 = .ok (.invokevirtual 90, 3) := by decide +kernel
theorem dX11_feed_43 : decode cX11_feed 43 = .ok (.aload 6, 2) := by decide +kernel
theorem dX11_feed_45 : decode cX11_feed 45 = .ok (.iload 4, 2) := by decide +kernel
theorem dX11_feed_47 : decode cX11_feed 47 = .ok (.invokevirtual 90, 3) := by decide +kernel
theorem dX11_feed_50 : decode cX11_feed 50 = .ok (.aload 6, 2) := by decide +kernel
theorem dX11_feed_52 : decode cX11_feed 52 = .ok (.iload 5, 2) := by decide +kernel
theorem dX11_feed_54 : decode cX11_feed 54 = .ok (.invokevirtual 90, 3) := by decide +kernel
theorem dX11_feed_57 : decode cX11_feed 57 = .ok (.aload 6, 2) := by decide +kernel
theorem dX11_feed_59 : decode cX11_feed 59 = .ok (.getfield 84, 3) := by decide +kernel
theorem dX11_feed_62 : decode cX11_feed 62 = .ok (.ireturn, 1) := by decide +kernel
theorem dX11_end_0 : decode cX11_end 0 = .ok (.iload_n 1, 1) := by decide +kernel
theorem dX11_end_1 : decode cX11_end 1 = .ok (.ifCond .lt 17, 3) := by decide +kernel
theorem dX11_end_4 : decode cX11_end 4 = .ok (.iload_n 1, 1) := by decide +kernel
theorem dX11_end_5 : decode cX11_end 5 = .ok (.aload_n 0, 1) := by decide +kernel
theorem dX11_end_6 : decode cX11_end 6 = .ok (.getfield 10, 3) := by decide +kernel
theorem dX11_end_9 : decode cX11_end 9 = .ok (.getfield 80, 3) := by decide +kernel
theorem dX11_end_12 : decode cX11_end 12 = .ok (.getfield 84, 3) := by decide +kernel
theorem dX11_end_15 : decode cX11_end 15 = .ok (.if_icmp .le 5, 3) := by decide +kernel
theorem dX11_end_18 : decode cX11_end 18 = .ok (.iconst (-1), 1) := by decide +kernel
theorem dX11_end_19 : decode cX11_end 19 = .ok (.ireturn, 1) := by decide +kernel
theorem dX11_end_20 : decode cX11_end 20 = .ok (.aload_n 0, 1) := by decide +kernel
theorem dX11_end_21 : decode cX11_end 21 = .ok (.getfield 10, 3) := by decide +kernel
theorem dX11_end_24 : decode cX11_end 24 = .ok (.getfield 80, 3) := by decide +kernel
theorem dX11_end_27 : decode cX11_end 27 = .ok (.iload_n 1, 1) := by decide +kernel
theorem dX11_end_28 : decode cX11_end 28 = .ok (.putfield 84, 3) := by decide +kernel
theorem dX11_end_31 : decode cX11_end 31 = .ok (.iload_n 1, 1) := by decide +kernel
theorem dX11_end_32 : decode cX11_end 32 = .ok (.ireturn, 1) := by decide +kernel
theorem dX11_land_0 : decode cX11_land 0 = .ok (.aload_n 0, 1) := by decide +kernel
theorem dX11_land_1 : decode cX11_land 1 = .ok (.getfield 10, 3) := by decide +kernel
theorem dX11_land_4 : decode cX11_land 4 = .ok (.aload_n 0, 1) := by decide +kernel
theorem dX11_land_5 : decode cX11_land 5 = .ok (.getfield 23, 3) := by decide +kernel
theorem dX11_land_8 : decode cX11_land 8 = .ok (.invokevirtual 94, 3) := by decide +kernel
theorem dX11_land_11 : decode cX11_land 11 = .ok (.istore_n 1, 1) := by decide +kernel
theorem dX11_land_12 : decode cX11_land 12 = .ok (.aload_n 0, 1) := by decide +kernel
theorem dX11_land_13 : decode cX11_land 13 = .ok (.getfield 10, 3) := by decide +kernel
theorem dX11_land_16 : decode cX11_land 16 = .ok (.getfield 80, 3) := by decide +kernel
theorem dX11_land_19 : decode cX11_land 19 = .ok (.iconst 0, 1) := by decide +kernel
theorem dX11_land_20 : decode cX11_land 20 = .ok (.putfield 84, 3) := by decide +kernel
theorem dX11_land_23 : decode cX11_land 23 = .ok (.iload_n 1, 1) := by decide +kernel
theorem dX11_land_24 : decode cX11_land 24 = .ok (.ifCond .ne 5, 3) := by decide +kernel
theorem dX11_land_27 : decode cX11_land 27 = .ok (.iconst (-1), 1) := by decide +kernel
theorem dX11_land_28 : decode cX11_land 28 = .ok (.ireturn, 1) := by decide +kernel
theorem dX11_land_29 : decode cX11_land 29 = .ok (.aload_n 0, 1) := by decide +kernel
theorem dX11_land_30 : decode cX11_land 30 = .ok (.getfield 19, 3) := by decide +kernel
theorem dX11_land_33 : decode cX11_land 33 = .ok (.astore_n 2, 1) := by decide +kernel
theorem dX11_land_34 : decode cX11_land 34 = .ok (.aload_n 0, 1) := by decide +kernel
theorem dX11_land_35 : decode cX11_land 35 = .ok (.aload_n 0, 1) := by decide +kernel
theorem dX11_land_36 : decode cX11_land 36 = .ok (.getfield 23, 3) := by decide +kernel
theorem dX11_land_39 : decode cX11_land 39 = .ok (.putfield 19, 3) := by decide +kernel
theorem dX11_land_42 : decode cX11_land 42 = .ok (.aload_n 0, 1) := by decide +kernel
theorem dX11_land_43 : decode cX11_land 43 = .ok (.aload_n 2, 1) := by decide +kernel
theorem dX11_land_44 : decode cX11_land 44 = .ok (.putfield 23, 3) := by decide +kernel
theorem dX11_land_47 : decode cX11_land 47 = .ok (.aload_n 0, 1) := by decide +kernel
theorem dX11_land_48 : decode cX11_land 48 = .ok (.invokevirtual 77, 3) := by decide +kernel
theorem dX11_land_51 : decode cX11_land 51 = .ok (.aload_n 0, 1) := by decide +kernel
theorem dX11_land_52 : decode cX11_land 52 = .ok (.getfield 19, 3) := by decide +kernel
theorem dX11_land_55 : decode cX11_land 55 = .ok (.getfield 98, 3) := by decide +kernel
theorem dX11_land_58 : decode cX11_land 58 = .ok (.ireturn, 1) := by decide +kernel
theorem dX11_fault_0 : decode cX11_fault 0 = .ok (.iload_n 1, 1) := by decide +kernel
theorem dX11_fault_1 : decode cX11_fault 1 = .ok (.ifCond .ne 11, 3) := by decide +kernel
theorem dX11_fault_4 : decode cX11_fault 4 = .ok (.aload_n 0, 1) := by decide +kernel
theorem dX11_fault_5 : decode cX11_fault 5 = .ok (.getfield 10, 3) := by decide +kernel
theorem dX11_fault_8 : decode cX11_fault 8 = .ok (.getfield 101, 3) := by decide +kernel
theorem dX11_fault_11 : decode cX11_fault 11 = .ok (.ireturn, 1) := by decide +kernel
theorem dX11_fault_12 : decode cX11_fault 12 = .ok (.iload_n 1, 1) := by decide +kernel
theorem dX11_fault_13 : decode cX11_fault 13 = .ok (.iconst 1, 1) := by decide +kernel
theorem dX11_fault_14 : decode cX11_fault 14 = .ok (.if_icmp .ne 13, 3) := by decide +kernel
theorem dX11_fault_17 : decode cX11_fault 17 = .ok (.aload_n 0, 1) := by decide +kernel
theorem dX11_fault_18 : decode cX11_fault 18 = .ok (.getfield 10, 3) := by decide +kernel
theorem dX11_fault_21 : decode cX11_fault 21 = .ok (.getfield 104, 3) := by decide +kernel
theorem dX11_fault_24 : decode cX11_fault 24 = .ok (.goto 4, 3) := by decide +kernel
theorem dX11_fault_27 : decode cX11_fault 27 = .ok (.iconst (-1), 1) := by decide +kernel
theorem dX11_fault_28 : decode cX11_fault 28 = .ok (.ireturn, 1) := by decide +kernel
theorem dX11_bier_0 : decode cX11_bier 0 = .ok (.iload_n 1, 1) := by decide +kernel
theorem dX11_bier_1 : decode cX11_bier 1 = .ok (.aload_n 0, 1) := by decide +kernel
theorem dX11_bier_2 : decode cX11_bier 2 = .ok (.getfield 19, 3) := by decide +kernel
theorem dX11_bier_5 : decode cX11_bier 5 = .ok (.getfield 107, 3) := by decide +kernel
theorem dX11_bier_8 : decode cX11_bier 8 = .ok (.invokestatic 110, 3) := by decide +kernel
theorem dX11_bier_11 : decode cX11_bier 11 = .ok (.ifCond .ne 6, 3) := by decide +kernel
theorem dX11_bier_14 : decode cX11_bier 14 = .ok (.bipush (-2), 2) := by decide +kernel
theorem dX11_bier_16 : decode cX11_bier 16 = .ok (.ireturn, 1) := by decide +kernel
theorem dX11_bier_17 : decode cX11_bier 17 = .ok (.aload_n 0, 1) := by decide +kernel
theorem dX11_bier_18 : decode cX11_bier 18 = .ok (.getfield 47, 3) := by decide +kernel
theorem dX11_bier_21 : decode cX11_bier 21 = .ok (.getfield 114, 3) := by decide +kernel
theorem dX11_bier_24 : decode cX11_bier 24 = .ok (.iload_n 1, 1) := by decide +kernel
theorem dX11_bier_25 : decode cX11_bier 25 = .ok (.iaload, 1) := by decide +kernel
theorem dX11_bier_26 : decode cX11_bier 26 = .ok (.istore_n 3, 1) := by decide +kernel
theorem dX11_bier_27 : decode cX11_bier 27 = .ok (.iload_n 3, 1) := by decide +kernel
theorem dX11_bier_28 : decode cX11_bier 28 = .ok (.iconst 1, 1) := by decide +kernel
theorem dX11_bier_29 : decode cX11_bier 29 = .ok (.if_icmp .ne 7, 3) := by decide +kernel
theorem dX11_bier_32 : decode cX11_bier 32 = .ok (.iconst 1, 1) := by decide +kernel
theorem dX11_bier_33 : decode cX11_bier 33 = .ok (.goto 4, 3) := by decide +kernel
theorem dX11_bier_36 : decode cX11_bier 36 = .ok (.iconst 0, 1) := by decide +kernel
theorem dX11_bier_37 : decode cX11_bier 37 = .ok (.istore 4, 2) := by decide +kernel
theorem dX11_bier_39 : decode cX11_bier 39 = .ok (.iload_n 2, 1) := by decide +kernel
theorem dX11_bier_40 : decode cX11_bier 40 = .ok (.tableswitch 118 0 5 #[40, 42, 52, 76, 86, 96], 40) := by decide +kernel
theorem dX11_bier_80 : decode cX11_bier 80 = .ok (.iload_n 3, 1) := by decide +kernel
theorem dX11_bier_81 : decode cX11_bier 81 = .ok (.ireturn, 1) := by decide +kernel
theorem dX11_bier_82 : decode cX11_bier 82 = .ok (.aload_n 0, 1) := by decide +kernel
theorem dX11_bier_83 : decode cX11_bier 83 = .ok (.getfield 47, 3) := by decide +kernel
theorem dX11_bier_86 : decode cX11_bier 86 = .ok (.getfield 117, 3) := by decide +kernel
theorem dX11_bier_89 : decode cX11_bier 89 = .ok (.iload_n 1, 1) := by decide +kernel
theorem dX11_bier_90 : decode cX11_bier 90 = .ok (.iaload, 1) := by decide +kernel
theorem dX11_bier_91 : decode cX11_bier 91 = .ok (.ireturn, 1) := by decide +kernel
theorem dX11_bier_92 : decode cX11_bier 92 = .ok (.iload 4, 2) := by decide +kernel
theorem dX11_bier_94 : decode cX11_bier 94 = .ok (.ifCond .ne 8, 3) := by decide +kernel
theorem dX11_bier_97 : decode cX11_bier 97 = .ok (.iload_n 3, 1) := by decide +kernel
theorem dX11_bier_98 : decode cX11_bier 98 = .ok (.iconst 2, 1) := by decide +kernel
theorem dX11_bier_99 : decode cX11_bier 99 = .ok (.if_icmp .ne 15, 3) := by decide +kernel
theorem dX11_bier_102 : decode cX11_bier 102 = .ok (.aload_n 0, 1) := by decide +kernel
theorem dX11_bier_103 : decode cX11_bier 103 = .ok (.getfield 47, 3) := by decide +kernel
theorem dX11_bier_106 : decode cX11_bier 106 = .ok (.getfield 120, 3) := by decide +kernel
theorem dX11_bier_109 : decode cX11_bier 109 = .ok (.iload_n 1, 1) := by decide +kernel
theorem dX11_bier_110 : decode cX11_bier 110 = .ok (.iaload, 1) := by decide +kernel
theorem dX11_bier_111 : decode cX11_bier 111 = .ok (.goto 4, 3) := by decide +kernel
theorem dX11_bier_114 : decode cX11_bier 114 = .ok (.iconst (-1), 1) := by decide +kernel
theorem dX11_bier_115 : decode cX11_bier 115 = .ok (.ireturn, 1) := by decide +kernel
theorem dX11_bier_116 : decode cX11_bier 116 = .ok (.aload_n 0, 1) := by decide +kernel
theorem dX11_bier_117 : decode cX11_bier 117 = .ok (.getfield 47, 3) := by decide +kernel
theorem dX11_bier_120 : decode cX11_bier 120 = .ok (.getfield 123, 3) := by decide +kernel
theorem dX11_bier_123 : decode cX11_bier 123 = .ok (.iload_n 1, 1) := by decide +kernel
theorem dX11_bier_124 : decode cX11_bier 124 = .ok (.iaload, 1) := by decide +kernel
theorem dX11_bier_125 : decode cX11_bier 125 = .ok (.ireturn, 1) := by decide +kernel
theorem dX11_bier_126 : decode cX11_bier 126 = .ok (.aload_n 0, 1) := by decide +kernel
theorem dX11_bier_127 : decode cX11_bier 127 = .ok (.getfield 19, 3) := by decide +kernel
theorem dX11_bier_130 : decode cX11_bier 130 = .ok (.getfield 126, 3) := by decide +kernel
theorem dX11_bier_133 : decode cX11_bier 133 = .ok (.iload_n 1, 1) := by decide +kernel
theorem dX11_bier_134 : decode cX11_bier 134 = .ok (.iaload, 1) := by decide +kernel
theorem dX11_bier_135 : decode cX11_bier 135 = .ok (.ireturn, 1) := by decide +kernel
theorem dX11_bier_136 : decode cX11_bier 136 = .ok (.iload 4, 2) := by decide +kernel
theorem dX11_bier_138 : decode cX11_bier 138 = .ok (.ifCond .eq 18, 3) := by decide +kernel
theorem dX11_bier_141 : decode cX11_bier 141 = .ok (.aload_n 0, 1) := by decide +kernel
theorem dX11_bier_142 : decode cX11_bier 142 = .ok (.getfield 31, 3) := by decide +kernel
theorem dX11_bier_145 : decode cX11_bier 145 = .ok (.aload_n 0, 1) := by decide +kernel
theorem dX11_bier_146 : decode cX11_bier 146 = .ok (.getfield 47, 3) := by decide +kernel
theorem dX11_bier_149 : decode cX11_bier 149 = .ok (.iload_n 1, 1) := by decide +kernel
theorem dX11_bier_150 : decode cX11_bier 150 = .ok (.invokevirtual 129, 3) := by decide +kernel
theorem dX11_bier_153 : decode cX11_bier 153 = .ok (.goto 4, 3) := by decide +kernel
theorem dX11_bier_156 : decode cX11_bier 156 = .ok (.iconst 0, 1) := by decide +kernel
theorem dX11_bier_157 : decode cX11_bier 157 = .ok (.ireturn, 1) := by decide +kernel
theorem dX11_bier_158 : decode cX11_bier 158 = .ok (.bipush (-2), 2) := by decide +kernel
theorem dX11_bier_160 : decode cX11_bier 160 = .ok (.ireturn, 1) := by decide +kernel
theorem dX11_letter_0 : decode cX11_letter 0 = .ok (.iload_n 1, 1) := by decide +kernel
theorem dX11_letter_1 : decode cX11_letter 1 = .ok (.aload_n 0, 1) := by decide +kernel
theorem dX11_letter_2 : decode cX11_letter 2 = .ok (.getfield 47, 3) := by decide +kernel
theorem dX11_letter_5 : decode cX11_letter 5 = .ok (.getfield 133, 3) := by decide +kernel
theorem dX11_letter_8 : decode cX11_letter 8 = .ok (.invokestatic 110, 3) := by decide +kernel
theorem dX11_letter_11 : decode cX11_letter 11 = .ok (.ifCond .ne 6, 3) := by decide +kernel
theorem dX11_letter_14 : decode cX11_letter 14 = .ok (.bipush (-2), 2) := by decide +kernel
theorem dX11_letter_16 : decode cX11_letter 16 = .ok (.ireturn, 1) := by decide +kernel
theorem dX11_letter_17 : decode cX11_letter 17 = .ok (.iload_n 2, 1) := by decide +kernel
theorem dX11_letter_18 : decode cX11_letter 18 = .ok (.tableswitch 112 0 6 #[42, 52, 62, 72, 82, 92, 102], 42) := by decide +kernel
theorem dX11_letter_60 : decode cX11_letter 60 = .ok (.aload_n 0, 1) := by decide +kernel
theorem dX11_letter_61 : decode cX11_letter 61 = .ok (.getfield 47, 3) := by decide +kernel
theorem dX11_letter_64 : decode cX11_letter 64 = .ok (.getfield 134, 3) := by decide +kernel
theorem dX11_letter_67 : decode cX11_letter 67 = .ok (.iload_n 1, 1) := by decide +kernel
theorem dX11_letter_68 : decode cX11_letter 68 = .ok (.iaload, 1) := by decide +kernel
theorem dX11_letter_69 : decode cX11_letter 69 = .ok (.ireturn, 1) := by decide +kernel
theorem dX11_letter_70 : decode cX11_letter 70 = .ok (.aload_n 0, 1) := by decide +kernel
theorem dX11_letter_71 : decode cX11_letter 71 = .ok (.getfield 47, 3) := by decide +kernel
theorem dX11_letter_74 : decode cX11_letter 74 = .ok (.getfield 137, 3) := by decide +kernel
theorem dX11_letter_77 : decode cX11_letter 77 = .ok (.iload_n 1, 1) := by decide +kernel
theorem dX11_letter_78 : decode cX11_letter 78 = .ok (.iaload, 1) := by decide +kernel
theorem dX11_letter_79 : decode cX11_letter 79 = .ok (.ireturn, 1) := by decide +kernel
theorem dX11_letter_80 : decode cX11_letter 80 = .ok (.aload_n 0, 1) := by decide +kernel
theorem dX11_letter_81 : decode cX11_letter 81 = .ok (.getfield 47, 3) := by decide +kernel
theorem dX11_letter_84 : decode cX11_letter 84 = .ok (.getfield 140, 3) := by decide +kernel
theorem dX11_letter_87 : decode cX11_letter 87 = .ok (.iload_n 1, 1) := by decide +kernel
theorem dX11_letter_88 : decode cX11_letter 88 = .ok (.iaload, 1) := by decide +kernel
theorem dX11_letter_89 : decode cX11_letter 89 = .ok (.ireturn, 1) := by decide +kernel
theorem dX11_letter_90 : decode cX11_letter 90 = .ok (.aload_n 0, 1) := by decide +kernel
theorem dX11_letter_91 : decode cX11_letter 91 = .ok (.getfield 47, 3) := by decide +kernel
theorem dX11_letter_94 : decode cX11_letter 94 = .ok (.getfield 143, 3) := by decide +kernel
theorem dX11_letter_97 : decode cX11_letter 97 = .ok (.iload_n 1, 1) := by decide +kernel
theorem dX11_letter_98 : decode cX11_letter 98 = .ok (.iaload, 1) := by decide +kernel
theorem dX11_letter_99 : decode cX11_letter 99 = .ok (.ireturn, 1) := by decide +kernel
theorem dX11_letter_100 : decode cX11_letter 100 = .ok (.aload_n 0, 1) := by decide +kernel
theorem dX11_letter_101 : decode cX11_letter 101 = .ok (.getfield 47, 3) := by decide +kernel
theorem dX11_letter_104 : decode cX11_letter 104 = .ok (.getfield 146, 3) := by decide +kernel
theorem dX11_letter_107 : decode cX11_letter 107 = .ok (.iload_n 1, 1) := by decide +kernel
theorem dX11_letter_108 : decode cX11_letter 108 = .ok (.iaload, 1) := by decide +kernel
theorem dX11_letter_109 : decode cX11_letter 109 = .ok (.ireturn, 1) := by decide +kernel
theorem dX11_letter_110 : decode cX11_letter 110 = .ok (.aload_n 0, 1) := by decide +kernel
theorem dX11_letter_111 : decode cX11_letter 111 = .ok (.getfield 47, 3) := by decide +kernel
theorem dX11_letter_114 : decode cX11_letter 114 = .ok (.getfield 149, 3) := by decide +kernel
theorem dX11_letter_117 : decode cX11_letter 117 = .ok (.iload_n 1, 1) := by decide +kernel
theorem dX11_letter_118 : decode cX11_letter 118 = .ok (.iaload, 1) := by decide +kernel
theorem dX11_letter_119 : decode cX11_letter 119 = .ok (.ireturn, 1) := by decide +kernel
theorem dX11_letter_120 : decode cX11_letter 120 = .ok (.aload_n 0, 1) := by decide +kernel
theorem dX11_letter_121 : decode cX11_letter 121 = .ok (.getfield 47, 3) := by decide +kernel
theorem dX11_letter_124 : decode cX11_letter 124 = .ok (.getfield 152, 3) := by decide +kernel
theorem dX11_letter_127 : decode cX11_letter 127 = .ok (.iload_n 1, 1) := by decide +kernel
theorem dX11_letter_128 : decode cX11_letter 128 = .ok (.iaload, 1) := by decide +kernel
theorem dX11_letter_129 : decode cX11_letter 129 = .ok (.ireturn, 1) := by decide +kernel
theorem dX11_letter_130 : decode cX11_letter 130 = .ok (.bipush (-2), 2) := by decide +kernel
theorem dX11_letter_132 : decode cX11_letter 132 = .ok (.ireturn, 1) := by decide +kernel
theorem dX11_village_0 : decode cX11_village 0 = .ok (.iload_n 1, 1) := by decide +kernel
theorem dX11_village_1 : decode cX11_village 1 = .ok (.aload_n 0, 1) := by decide +kernel
theorem dX11_village_2 : decode cX11_village 2 = .ok (.getfield 19, 3) := by decide +kernel
theorem dX11_village_5 : decode cX11_village 5 = .ok (.getfield 155, 3) := by decide +kernel
theorem dX11_village_8 : decode cX11_village 8 = .ok (.invokestatic 110, 3) := by decide +kernel
theorem dX11_village_11 : decode cX11_village 11 = .ok (.ifCond .ne 5, 3) := by decide +kernel
theorem dX11_village_14 : decode cX11_village 14 = .ok (.iconst (-1), 1) := by decide +kernel
theorem dX11_village_15 : decode cX11_village 15 = .ok (.ireturn, 1) := by decide +kernel
theorem dX11_village_16 : decode cX11_village 16 = .ok (.iload_n 2, 1) := by decide +kernel
theorem dX11_village_17 : decode cX11_village 17 = .ok (.tableswitch 58 0 2 #[27, 36, 45], 27) := by decide +kernel
theorem dX11_village_44 : decode cX11_village 44 = .ok (.aload_n 0, 1) := by decide +kernel
theorem dX11_village_45 : decode cX11_village 45 = .ok (.getfield 47, 3) := by decide +kernel
theorem dX11_village_48 : decode cX11_village 48 = .ok (.iload_n 1, 1) := by decide +kernel
theorem dX11_village_49 : decode cX11_village 49 = .ok (.invokevirtual 158, 3) := by decide +kernel
theorem dX11_village_52 : decode cX11_village 52 = .ok (.ireturn, 1) := by decide +kernel
theorem dX11_village_53 : decode cX11_village 53 = .ok (.aload_n 0, 1) := by decide +kernel
theorem dX11_village_54 : decode cX11_village 54 = .ok (.getfield 47, 3) := by decide +kernel
theorem dX11_village_57 : decode cX11_village 57 = .ok (.iload_n 1, 1) := by decide +kernel
theorem dX11_village_58 : decode cX11_village 58 = .ok (.invokevirtual 162, 3) := by decide +kernel
theorem dX11_village_61 : decode cX11_village 61 = .ok (.ireturn, 1) := by decide +kernel
theorem dX11_village_62 : decode cX11_village 62 = .ok (.aload_n 0, 1) := by decide +kernel
theorem dX11_village_63 : decode cX11_village 63 = .ok (.getfield 31, 3) := by decide +kernel
theorem dX11_village_66 : decode cX11_village 66 = .ok (.getfield 165, 3) := by decide +kernel
theorem dX11_village_69 : decode cX11_village 69 = .ok (.getfield 169, 3) := by decide +kernel
theorem dX11_village_72 : decode cX11_village 72 = .ok (.iload_n 1, 1) := by decide +kernel
theorem dX11_village_73 : decode cX11_village 73 = .ok (.iaload, 1) := by decide +kernel
theorem dX11_village_74 : decode cX11_village 74 = .ok (.ireturn, 1) := by decide +kernel
theorem dX11_village_75 : decode cX11_village 75 = .ok (.iconst (-1), 1) := by decide +kernel
theorem dX11_village_76 : decode cX11_village 76 = .ok (.ireturn, 1) := by decide +kernel
theorem dX11_far_0 : decode cX11_far 0 = .ok (.iload_n 1, 1) := by decide +kernel
theorem dX11_far_1 : decode cX11_far 1 = .ok (.aload_n 0, 1) := by decide +kernel
theorem dX11_far_2 : decode cX11_far 2 = .ok (.getfield 19, 3) := by decide +kernel
theorem dX11_far_5 : decode cX11_far 5 = .ok (.getfield 155, 3) := by decide +kernel
theorem dX11_far_8 : decode cX11_far 8 = .ok (.invokestatic 110, 3) := by decide +kernel
theorem dX11_far_11 : decode cX11_far 11 = .ok (.ifCond .eq 17, 3) := by decide +kernel
theorem dX11_far_14 : decode cX11_far 14 = .ok (.iload_n 2, 1) := by decide +kernel
theorem dX11_far_15 : decode cX11_far 15 = .ok (.aload_n 0, 1) := by decide +kernel
theorem dX11_far_16 : decode cX11_far 16 = .ok (.getfield 19, 3) := by decide +kernel
theorem dX11_far_19 : decode cX11_far 19 = .ok (.getfield 155, 3) := by decide +kernel
theorem dX11_far_22 : decode cX11_far 22 = .ok (.invokestatic 110, 3) := by decide +kernel
theorem dX11_far_25 : decode cX11_far 25 = .ok (.ifCond .ne 5, 3) := by decide +kernel
theorem dX11_far_28 : decode cX11_far 28 = .ok (.iconst (-1), 1) := by decide +kernel
theorem dX11_far_29 : decode cX11_far 29 = .ok (.ireturn, 1) := by decide +kernel
theorem dX11_far_30 : decode cX11_far 30 = .ok (.aload_n 0, 1) := by decide +kernel
theorem dX11_far_31 : decode cX11_far 31 = .ok (.getfield 31, 3) := by decide +kernel
theorem dX11_far_34 : decode cX11_far 34 = .ok (.getfield 165, 3) := by decide +kernel
theorem dX11_far_37 : decode cX11_far 37 = .ok (.iload_n 1, 1) := by decide +kernel
theorem dX11_far_38 : decode cX11_far 38 = .ok (.iload_n 2, 1) := by decide +kernel
theorem dX11_far_39 : decode cX11_far 39 = .ok (.invokevirtual 174, 3) := by decide +kernel
theorem dX11_far_42 : decode cX11_far 42 = .ok (.ireturn, 1) := by decide +kernel
theorem dX11_day_0 : decode cX11_day 0 = .ok (.aload_n 0, 1) := by decide +kernel
theorem dX11_day_1 : decode cX11_day 1 = .ok (.getfield 47, 3) := by decide +kernel
theorem dX11_day_4 : decode cX11_day 4 = .ok (.getfield 178, 3) := by decide +kernel
theorem dX11_day_7 : decode cX11_day 7 = .ok (.sipush 300, 3) := by decide +kernel
theorem dX11_day_10 : decode cX11_day 10 = .ok (.if_icmp .lt 5, 3) := by decide +kernel
theorem dX11_day_13 : decode cX11_day 13 = .ok (.iconst (-1), 1) := by decide +kernel
theorem dX11_day_14 : decode cX11_day 14 = .ok (.ireturn, 1) := by decide +kernel
theorem dX11_day_15 : decode cX11_day 15 = .ok (.aload_n 0, 1) := by decide +kernel
theorem dX11_day_16 : decode cX11_day 16 = .ok (.getfield 31, 3) := by decide +kernel
theorem dX11_day_19 : decode cX11_day 19 = .ok (.aload_n 0, 1) := by decide +kernel
theorem dX11_day_20 : decode cX11_day 20 = .ok (.getfield 47, 3) := by decide +kernel
theorem dX11_day_23 : decode cX11_day 23 = .ok (.invokevirtual 181, 3) := by decide +kernel
theorem dX11_day_26 : decode cX11_day 26 = .ok (.istore_n 1, 1) := by decide +kernel
theorem dX11_day_27 : decode cX11_day 27 = .ok (.aload_n 0, 1) := by decide +kernel
theorem dX11_day_28 : decode cX11_day 28 = .ok (.getfield 54, 3) := by decide +kernel
theorem dX11_day_31 : decode cX11_day 31 = .ok (.aload_n 0, 1) := by decide +kernel
theorem dX11_day_32 : decode cX11_day 32 = .ok (.getfield 47, 3) := by decide +kernel
theorem dX11_day_35 : decode cX11_day 35 = .ok (.invokevirtual 185, 3) := by decide +kernel
theorem dX11_day_38 : decode cX11_day 38 = .ok (.iload_n 1, 1) := by decide +kernel
theorem dX11_day_39 : decode cX11_day 39 = .ok (.ireturn, 1) := by decide +kernel
theorem dX11_post_0 : decode cX11_post 0 = .ok (.aload_n 0, 1) := by decide +kernel
theorem dX11_post_1 : decode cX11_post 1 = .ok (.getfield 47, 3) := by decide +kernel
theorem dX11_post_4 : decode cX11_post 4 = .ok (.getfield 133, 3) := by decide +kernel
theorem dX11_post_7 : decode cX11_post 7 = .ok (.bipush 10, 2) := by decide +kernel
theorem dX11_post_9 : decode cX11_post 9 = .ok (.if_icmp .ge 12, 3) := by decide +kernel
theorem dX11_post_12 : decode cX11_post 12 = .ok (.aload_n 0, 1) := by decide +kernel
theorem dX11_post_13 : decode cX11_post 13 = .ok (.iload_n 1, 1) := by decide +kernel
theorem dX11_post_14 : decode cX11_post 14 = .ok (.iload_n 2, 1) := by decide +kernel
theorem dX11_post_15 : decode cX11_post 15 = .ok (.invokevirtual 189, 3) := by decide +kernel
theorem dX11_post_18 : decode cX11_post 18 = .ok (.ifCond .ne 5, 3) := by decide +kernel
theorem dX11_post_21 : decode cX11_post 21 = .ok (.iconst (-1), 1) := by decide +kernel
theorem dX11_post_22 : decode cX11_post 22 = .ok (.ireturn, 1) := by decide +kernel
theorem dX11_post_23 : decode cX11_post 23 = .ok (.aload_n 0, 1) := by decide +kernel
theorem dX11_post_24 : decode cX11_post 24 = .ok (.getfield 47, 3) := by decide +kernel
theorem dX11_post_27 : decode cX11_post 27 = .ok (.iload_n 1, 1) := by decide +kernel
theorem dX11_post_28 : decode cX11_post 28 = .ok (.iload_n 2, 1) := by decide +kernel
theorem dX11_post_29 : decode cX11_post 29 = .ok (.sipush 200, 3) := by decide +kernel
theorem dX11_post_32 : decode cX11_post 32 = .ok (.iconst 1, 1) := by decide +kernel
theorem dX11_post_33 : decode cX11_post 33 = .ok (.invokevirtual 192, 3) := by decide +kernel
theorem dX11_post_36 : decode cX11_post 36 = .ok (.istore_n 3, 1) := by decide +kernel
theorem dX11_post_37 : decode cX11_post 37 = .ok (.aload_n 0, 1) := by decide +kernel
theorem dX11_post_38 : decode cX11_post 38 = .ok (.getfield 54, 3) := by decide +kernel
theorem dX11_post_41 : decode cX11_post 41 = .ok (.aload_n 0, 1) := by decide +kernel
theorem dX11_post_42 : decode cX11_post 42 = .ok (.getfield 47, 3) := by decide +kernel
theorem dX11_post_45 : decode cX11_post 45 = .ok (.invokevirtual 185, 3) := by decide +kernel
theorem dX11_post_48 : decode cX11_post 48 = .ok (.iload_n 3, 1) := by decide +kernel
theorem dX11_post_49 : decode cX11_post 49 = .ok (.ireturn, 1) := by decide +kernel
theorem dX11_hand_0 : decode cX11_hand 0 = .ok (.iload_n 1, 1) := by decide +kernel
theorem dX11_hand_1 : decode cX11_hand 1 = .ok (.aload_n 0, 1) := by decide +kernel
theorem dX11_hand_2 : decode cX11_hand 2 = .ok (.getfield 47, 3) := by decide +kernel
theorem dX11_hand_5 : decode cX11_hand 5 = .ok (.getfield 133, 3) := by decide +kernel
theorem dX11_hand_8 : decode cX11_hand 8 = .ok (.invokestatic 110, 3) := by decide +kernel
theorem dX11_hand_11 : decode cX11_hand 11 = .ok (.ifCond .eq 17, 3) := by decide +kernel
theorem dX11_hand_14 : decode cX11_hand 14 = .ok (.iload_n 2, 1) := by decide +kernel
theorem dX11_hand_15 : decode cX11_hand 15 = .ok (.aload_n 0, 1) := by decide +kernel
theorem dX11_hand_16 : decode cX11_hand 16 = .ok (.getfield 19, 3) := by decide +kernel
theorem dX11_hand_19 : decode cX11_hand 19 = .ok (.getfield 107, 3) := by decide +kernel
theorem dX11_hand_22 : decode cX11_hand 22 = .ok (.invokestatic 110, 3) := by decide +kernel
theorem dX11_hand_25 : decode cX11_hand 25 = .ok (.ifCond .ne 5, 3) := by decide +kernel
theorem dX11_hand_28 : decode cX11_hand 28 = .ok (.iconst 0, 1) := by decide +kernel
theorem dX11_hand_29 : decode cX11_hand 29 = .ok (.ireturn, 1) := by decide +kernel
theorem dX11_hand_30 : decode cX11_hand 30 = .ok (.aload_n 0, 1) := by decide +kernel
theorem dX11_hand_31 : decode cX11_hand 31 = .ok (.getfield 47, 3) := by decide +kernel
theorem dX11_hand_34 : decode cX11_hand 34 = .ok (.getfield 134, 3) := by decide +kernel
theorem dX11_hand_37 : decode cX11_hand 37 = .ok (.iload_n 1, 1) := by decide +kernel
theorem dX11_hand_38 : decode cX11_hand 38 = .ok (.iaload, 1) := by decide +kernel
theorem dX11_hand_39 : decode cX11_hand 39 = .ok (.istore_n 3, 1) := by decide +kernel
theorem dX11_hand_40 : decode cX11_hand 40 = .ok (.iload_n 3, 1) := by decide +kernel
theorem dX11_hand_41 : decode cX11_hand 41 = .ok (.iconst (-1), 1) := by decide +kernel
theorem dX11_hand_42 : decode cX11_hand 42 = .ok (.if_icmp .eq 36, 3) := by decide +kernel
theorem dX11_hand_45 : decode cX11_hand 45 = .ok (.aload_n 0, 1) := by decide +kernel
theorem dX11_hand_46 : decode cX11_hand 46 = .ok (.getfield 47, 3) := by decide +kernel
theorem dX11_hand_49 : decode cX11_hand 49 = .ok (.iload_n 2, 1) := by decide +kernel
theorem dX11_hand_50 : decode cX11_hand 50 = .ok (.invokevirtual 196, 3) := by decide +kernel
theorem dX11_hand_53 : decode cX11_hand 53 = .ok (.iload_n 3, 1) := by decide +kernel
theorem dX11_hand_54 : decode cX11_hand 54 = .ok (.if_icmp .ne 24, 3) := by decide +kernel
theorem dX11_hand_57 : decode cX11_hand 57 = .ok (.aload_n 0, 1) := by decide +kernel
theorem dX11_hand_58 : decode cX11_hand 58 = .ok (.getfield 47, 3) := by decide +kernel
theorem dX11_hand_61 : decode cX11_hand 61 = .ok (.getfield 123, 3) := by decide +kernel
theorem dX11_hand_64 : decode cX11_hand 64 = .ok (.iload_n 2, 1) := by decide +kernel
theorem dX11_hand_65 : decode cX11_hand 65 = .ok (.iaload, 1) := by decide +kernel
theorem dX11_hand_66 : decode cX11_hand 66 = .ok (.aload_n 0, 1) := by decide +kernel
theorem dX11_hand_67 : decode cX11_hand 67 = .ok (.getfield 19, 3) := by decide +kernel
theorem dX11_hand_70 : decode cX11_hand 70 = .ok (.getfield 199, 3) := by decide +kernel
theorem dX11_hand_73 : decode cX11_hand 73 = .ok (.iload_n 2, 1) := by decide +kernel
theorem dX11_hand_74 : decode cX11_hand 74 = .ok (.iaload, 1) := by decide +kernel
theorem dX11_hand_75 : decode cX11_hand 75 = .ok (.if_icmp .lt 5, 3) := by decide +kernel
theorem dX11_hand_78 : decode cX11_hand 78 = .ok (.iconst 0, 1) := by decide +kernel
theorem dX11_hand_79 : decode cX11_hand 79 = .ok (.ireturn, 1) := by decide +kernel
theorem dX11_hand_80 : decode cX11_hand 80 = .ok (.aload_n 0, 1) := by decide +kernel
theorem dX11_hand_81 : decode cX11_hand 81 = .ok (.getfield 47, 3) := by decide +kernel
theorem dX11_hand_84 : decode cX11_hand 84 = .ok (.iload_n 1, 1) := by decide +kernel
theorem dX11_hand_85 : decode cX11_hand 85 = .ok (.iload_n 2, 1) := by decide +kernel
theorem dX11_hand_86 : decode cX11_hand 86 = .ok (.invokevirtual 202, 3) := by decide +kernel
theorem dX11_hand_89 : decode cX11_hand 89 = .ok (.aload_n 0, 1) := by decide +kernel
theorem dX11_hand_90 : decode cX11_hand 90 = .ok (.getfield 54, 3) := by decide +kernel
theorem dX11_hand_93 : decode cX11_hand 93 = .ok (.aload_n 0, 1) := by decide +kernel
theorem dX11_hand_94 : decode cX11_hand 94 = .ok (.getfield 47, 3) := by decide +kernel
theorem dX11_hand_97 : decode cX11_hand 97 = .ok (.invokevirtual 185, 3) := by decide +kernel
theorem dX11_hand_100 : decode cX11_hand 100 = .ok (.iconst 1, 1) := by decide +kernel
theorem dX11_hand_101 : decode cX11_hand 101 = .ok (.ireturn, 1) := by decide +kernel
theorem dX11_take_0 : decode cX11_take 0 = .ok (.iload_n 1, 1) := by decide +kernel
theorem dX11_take_1 : decode cX11_take 1 = .ok (.aload_n 0, 1) := by decide +kernel
theorem dX11_take_2 : decode cX11_take 2 = .ok (.getfield 47, 3) := by decide +kernel
theorem dX11_take_5 : decode cX11_take 5 = .ok (.getfield 133, 3) := by decide +kernel
theorem dX11_take_8 : decode cX11_take 8 = .ok (.invokestatic 110, 3) := by decide +kernel
theorem dX11_take_11 : decode cX11_take 11 = .ok (.ifCond .ne 5, 3) := by decide +kernel
theorem dX11_take_14 : decode cX11_take 14 = .ok (.iconst (-1), 1) := by decide +kernel
theorem dX11_take_15 : decode cX11_take 15 = .ok (.ireturn, 1) := by decide +kernel
theorem dX11_take_16 : decode cX11_take 16 = .ok (.aload_n 0, 1) := by decide +kernel
theorem dX11_take_17 : decode cX11_take 17 = .ok (.getfield 47, 3) := by decide +kernel
theorem dX11_take_20 : decode cX11_take 20 = .ok (.getfield 137, 3) := by decide +kernel
theorem dX11_take_23 : decode cX11_take 23 = .ok (.iload_n 1, 1) := by decide +kernel
theorem dX11_take_24 : decode cX11_take 24 = .ok (.iaload, 1) := by decide +kernel
theorem dX11_take_25 : decode cX11_take 25 = .ok (.istore_n 2, 1) := by decide +kernel
theorem dX11_take_26 : decode cX11_take 26 = .ok (.aload_n 0, 1) := by decide +kernel
theorem dX11_take_27 : decode cX11_take 27 = .ok (.getfield 47, 3) := by decide +kernel
theorem dX11_take_30 : decode cX11_take 30 = .ok (.iload_n 2, 1) := by decide +kernel
theorem dX11_take_31 : decode cX11_take 31 = .ok (.invokevirtual 196, 3) := by decide +kernel
theorem dX11_take_34 : decode cX11_take 34 = .ok (.istore_n 3, 1) := by decide +kernel
theorem dX11_take_35 : decode cX11_take 35 = .ok (.iload_n 3, 1) := by decide +kernel
theorem dX11_take_36 : decode cX11_take 36 = .ok (.iconst (-1), 1) := by decide +kernel
theorem dX11_take_37 : decode cX11_take 37 = .ok (.if_icmp .ne 5, 3) := by decide +kernel
theorem dX11_take_40 : decode cX11_take 40 = .ok (.iconst (-1), 1) := by decide +kernel
theorem dX11_take_41 : decode cX11_take 41 = .ok (.ireturn, 1) := by decide +kernel
theorem dX11_take_42 : decode cX11_take 42 = .ok (.aload_n 0, 1) := by decide +kernel
theorem dX11_take_43 : decode cX11_take 43 = .ok (.getfield 47, 3) := by decide +kernel
theorem dX11_take_46 : decode cX11_take 46 = .ok (.iload_n 1, 1) := by decide +kernel
theorem dX11_take_47 : decode cX11_take 47 = .ok (.iload_n 3, 1) := by decide +kernel
theorem dX11_take_48 : decode cX11_take 48 = .ok (.invokevirtual 206, 3) := by decide +kernel
theorem dX11_take_51 : decode cX11_take 51 = .ok (.aload_n 0, 1) := by decide +kernel
theorem dX11_take_52 : decode cX11_take 52 = .ok (.getfield 54, 3) := by decide +kernel
theorem dX11_take_55 : decode cX11_take 55 = .ok (.aload_n 0, 1) := by decide +kernel
theorem dX11_take_56 : decode cX11_take 56 = .ok (.getfield 47, 3) := by decide +kernel
theorem dX11_take_59 : decode cX11_take 59 = .ok (.invokevirtual 185, 3) := by decide +kernel
theorem dX11_take_62 : decode cX11_take 62 = .ok (.iload_n 2, 1) := by decide +kernel
theorem dX11_take_63 : decode cX11_take 63 = .ok (.ireturn, 1) := by decide +kernel
theorem dX11_close_0 : decode cX11_close 0 = .ok (.iload_n 1, 1) := by decide +kernel
theorem dX11_close_1 : decode cX11_close 1 = .ok (.aload_n 0, 1) := by decide +kernel
theorem dX11_close_2 : decode cX11_close 2 = .ok (.getfield 19, 3) := by decide +kernel
theorem dX11_close_5 : decode cX11_close 5 = .ok (.getfield 209, 3) := by decide +kernel
theorem dX11_close_8 : decode cX11_close 8 = .ok (.invokestatic 110, 3) := by decide +kernel
theorem dX11_close_11 : decode cX11_close 11 = .ok (.ifCond .ne 5, 3) := by decide +kernel
theorem dX11_close_14 : decode cX11_close 14 = .ok (.iconst (-1), 1) := by decide +kernel
theorem dX11_close_15 : decode cX11_close 15 = .ok (.ireturn, 1) := by decide +kernel
theorem dX11_close_16 : decode cX11_close 16 = .ok (.aload_n 0, 1) := by decide +kernel
theorem dX11_close_17 : decode cX11_close 17 = .ok (.getfield 47, 3) := by decide +kernel
theorem dX11_close_20 : decode cX11_close 20 = .ok (.dup, 1) := by decide +kernel
theorem dX11_close_21 : decode cX11_close 21 = .ok (.getfield 212, 3) := by decide +kernel
theorem dX11_close_24 : decode cX11_close 24 = .ok (.iconst 1, 1) := by decide +kernel
theorem dX11_close_25 : decode cX11_close 25 = .ok (.iload_n 1, 1) := by decide +kernel
theorem dX11_close_26 : decode cX11_close 26 = .ok (.ishl, 1) := by decide +kernel
theorem dX11_close_27 : decode cX11_close 27 = .ok (.ixor, 1) := by decide +kernel
theorem dX11_close_28 : decode cX11_close 28 = .ok (.putfield 212, 3) := by decide +kernel
theorem dX11_close_31 : decode cX11_close 31 = .ok (.aload_n 0, 1) := by decide +kernel
theorem dX11_close_32 : decode cX11_close 32 = .ok (.getfield 31, 3) := by decide +kernel
theorem dX11_close_35 : decode cX11_close 35 = .ok (.getfield 165, 3) := by decide +kernel
theorem dX11_close_38 : decode cX11_close 38 = .ok (.aload_n 0, 1) := by decide +kernel
theorem dX11_close_39 : decode cX11_close 39 = .ok (.getfield 19, 3) := by decide +kernel
theorem dX11_close_42 : decode cX11_close 42 = .ok (.aload_n 0, 1) := by decide +kernel
theorem dX11_close_43 : decode cX11_close 43 = .ok (.getfield 47, 3) := by decide +kernel
theorem dX11_close_46 : decode cX11_close 46 = .ok (.getfield 212, 3) := by decide +kernel
theorem dX11_close_49 : decode cX11_close 49 = .ok (.invokevirtual 215, 3) := by decide +kernel
theorem dX11_close_52 : decode cX11_close 52 = .ok (.aload_n 0, 1) := by decide +kernel
theorem dX11_close_53 : decode cX11_close 53 = .ok (.getfield 54, 3) := by decide +kernel
theorem dX11_close_56 : decode cX11_close 56 = .ok (.aload_n 0, 1) := by decide +kernel
theorem dX11_close_57 : decode cX11_close 57 = .ok (.getfield 47, 3) := by decide +kernel
theorem dX11_close_60 : decode cX11_close 60 = .ok (.invokevirtual 185, 3) := by decide +kernel
theorem dX11_close_63 : decode cX11_close 63 = .ok (.aload_n 0, 1) := by decide +kernel
theorem dX11_close_64 : decode cX11_close 64 = .ok (.getfield 47, 3) := by decide +kernel
theorem dX11_close_67 : decode cX11_close 67 = .ok (.getfield 212, 3) := by decide +kernel
theorem dX11_close_70 : decode cX11_close 70 = .ok (.iload_n 1, 1) := by decide +kernel
theorem dX11_close_71 : decode cX11_close 71 = .ok (.ishr, 1) := by decide +kernel
theorem dX11_close_72 : decode cX11_close 72 = .ok (.iconst 1, 1) := by decide +kernel
theorem dX11_close_73 : decode cX11_close 73 = .ok (.iand, 1) := by decide +kernel
theorem dX11_close_74 : decode cX11_close 74 = .ok (.ireturn, 1) := by decide +kernel
theorem dX11_undo_0 : decode cX11_undo 0 = .ok (.aload_n 0, 1) := by decide +kernel
theorem dX11_undo_1 : decode cX11_undo 1 = .ok (.getfield 54, 3) := by decide +kernel
theorem dX11_undo_4 : decode cX11_undo 4 = .ok (.invokevirtual 219, 3) := by decide +kernel
theorem dX11_undo_7 : decode cX11_undo 7 = .ok (.ifCond .ne 5, 3) := by decide +kernel
theorem dX11_undo_10 : decode cX11_undo 10 = .ok (.iconst 0, 1) := by decide +kernel
theorem dX11_undo_11 : decode cX11_undo 11 = .ok (.ireturn, 1) := by decide +kernel
theorem dX11_undo_12 : decode cX11_undo 12 = .ok (.aload_n 0, 1) := by decide +kernel
theorem dX11_undo_13 : decode cX11_undo 13 = .ok (.aload_n 0, 1) := by decide +kernel
theorem dX11_undo_14 : decode cX11_undo 14 = .ok (.getfield 54, 3) := by decide +kernel
theorem dX11_undo_17 : decode cX11_undo 17 = .ok (.invokevirtual 223, 3) := by decide +kernel
theorem dX11_undo_20 : decode cX11_undo 20 = .ok (.invokevirtual 227, 3) := by decide +kernel
theorem dX11_undo_23 : decode cX11_undo 23 = .ok (.iconst 1, 1) := by decide +kernel
theorem dX11_undo_24 : decode cX11_undo 24 = .ok (.ireturn, 1) := by decide +kernel
theorem dX11_redo_0 : decode cX11_redo 0 = .ok (.aload_n 0, 1) := by decide +kernel
theorem dX11_redo_1 : decode cX11_redo 1 = .ok (.getfield 54, 3) := by decide +kernel
theorem dX11_redo_4 : decode cX11_redo 4 = .ok (.invokevirtual 230, 3) := by decide +kernel
theorem dX11_redo_7 : decode cX11_redo 7 = .ok (.ifCond .ne 5, 3) := by decide +kernel
theorem dX11_redo_10 : decode cX11_redo 10 = .ok (.iconst 0, 1) := by decide +kernel
theorem dX11_redo_11 : decode cX11_redo 11 = .ok (.ireturn, 1) := by decide +kernel
theorem dX11_redo_12 : decode cX11_redo 12 = .ok (.aload_n 0, 1) := by decide +kernel
theorem dX11_redo_13 : decode cX11_redo 13 = .ok (.aload_n 0, 1) := by decide +kernel
theorem dX11_redo_14 : decode cX11_redo 14 = .ok (.getfield 54, 3) := by decide +kernel
theorem dX11_redo_17 : decode cX11_redo 17 = .ok (.invokevirtual 233, 3) := by decide +kernel
theorem dX11_redo_20 : decode cX11_redo 20 = .ok (.invokevirtual 227, 3) := by decide +kernel
theorem dX11_redo_23 : decode cX11_redo 23 = .ok (.iconst 1, 1) := by decide +kernel
theorem dX11_redo_24 : decode cX11_redo 24 = .ok (.ireturn, 1) := by decide +kernel
theorem dX11_comes_0 : decode cX11_comes 0 = .ok (.iload_n 1, 1) := by decide +kernel
theorem dX11_comes_1 : decode cX11_comes 1 = .ok (.aload_n 0, 1) := by decide +kernel
theorem dX11_comes_2 : decode cX11_comes 2 = .ok (.getfield 47, 3) := by decide +kernel
theorem dX11_comes_5 : decode cX11_comes 5 = .ok (.getfield 133, 3) := by decide +kernel
theorem dX11_comes_8 : decode cX11_comes 8 = .ok (.invokestatic 110, 3) := by decide +kernel
theorem dX11_comes_11 : decode cX11_comes 11 = .ok (.ifCond .ne 5, 3) := by decide +kernel
theorem dX11_comes_14 : decode cX11_comes 14 = .ok (.iconst (-1), 1) := by decide +kernel
theorem dX11_comes_15 : decode cX11_comes 15 = .ok (.ireturn, 1) := by decide +kernel
theorem dX11_comes_16 : decode cX11_comes 16 = .ok (.aload_n 0, 1) := by decide +kernel
theorem dX11_comes_17 : decode cX11_comes 17 = .ok (.getfield 40, 3) := by decide +kernel
theorem dX11_comes_20 : decode cX11_comes 20 = .ok (.aload_n 0, 1) := by decide +kernel
theorem dX11_comes_21 : decode cX11_comes 21 = .ok (.getfield 47, 3) := by decide +kernel
theorem dX11_comes_24 : decode cX11_comes 24 = .ok (.invokevirtual 236, 3) := by decide +kernel
theorem dX11_comes_27 : decode cX11_comes 27 = .ok (.getfield 140, 3) := by decide +kernel
theorem dX11_comes_30 : decode cX11_comes 30 = .ok (.iload_n 1, 1) := by decide +kernel
theorem dX11_comes_31 : decode cX11_comes 31 = .ok (.iaload, 1) := by decide +kernel
theorem dX11_comes_32 : decode cX11_comes 32 = .ok (.ireturn, 1) := by decide +kernel
theorem dX11_late_0 : decode cX11_late 0 = .ok (.aload_n 0, 1) := by decide +kernel
theorem dX11_late_1 : decode cX11_late 1 = .ok (.getfield 40, 3) := by decide +kernel
theorem dX11_late_4 : decode cX11_late 4 = .ok (.aload_n 0, 1) := by decide +kernel
theorem dX11_late_5 : decode cX11_late 5 = .ok (.getfield 47, 3) := by decide +kernel
theorem dX11_late_8 : decode cX11_late 8 = .ok (.invokevirtual 236, 3) := by decide +kernel
theorem dX11_late_11 : decode cX11_late 11 = .ok (.astore_n 1, 1) := by decide +kernel
theorem dX11_late_12 : decode cX11_late 12 = .ok (.iconst 0, 1) := by decide +kernel
theorem dX11_late_13 : decode cX11_late 13 = .ok (.istore_n 2, 1) := by decide +kernel
theorem dX11_late_14 : decode cX11_late 14 = .ok (.iconst 0, 1) := by decide +kernel
theorem dX11_late_15 : decode cX11_late 15 = .ok (.istore_n 3, 1) := by decide +kernel
theorem dX11_late_16 : decode cX11_late 16 = .ok (.iload_n 3, 1) := by decide +kernel
theorem dX11_late_17 : decode cX11_late 17 = .ok (.aload_n 1, 1) := by decide +kernel
theorem dX11_late_18 : decode cX11_late 18 = .ok (.getfield 133, 3) := by decide +kernel
theorem dX11_late_21 : decode cX11_late 21 = .ok (.if_icmp .ge 23, 3) := by decide +kernel
theorem dX11_late_24 : decode cX11_late 24 = .ok (.aload_n 1, 1) := by decide +kernel
theorem dX11_late_25 : decode cX11_late 25 = .ok (.iload_n 3, 1) := by decide +kernel
theorem dX11_late_26 : decode cX11_late 26 = .ok (.invokevirtual 240, 3) := by decide +kernel
theorem dX11_late_29 : decode cX11_late 29 = .ok (.ifCond .ne 9, 3) := by decide +kernel
theorem dX11_late_32 : decode cX11_late 32 = .ok (.iload_n 2, 1) := by decide +kernel
theorem dX11_late_33 : decode cX11_late 33 = .ok (.iconst 1, 1) := by decide +kernel
theorem dX11_late_34 : decode cX11_late 34 = .ok (.iload_n 3, 1) := by decide +kernel
theorem dX11_late_35 : decode cX11_late 35 = .ok (.ishl, 1) := by decide +kernel
theorem dX11_late_36 : decode cX11_late 36 = .ok (.ior, 1) := by decide +kernel
theorem dX11_late_37 : decode cX11_late 37 = .ok (.istore_n 2, 1) := by decide +kernel
theorem dX11_late_38 : decode cX11_late 38 = .ok (.iinc 3 1, 3) := by decide +kernel
theorem dX11_late_41 : decode cX11_late 41 = .ok (.goto (-25), 3) := by decide +kernel
theorem dX11_late_44 : decode cX11_late 44 = .ok (.iload_n 2, 1) := by decide +kernel
theorem dX11_late_45 : decode cX11_late 45 = .ok (.ireturn, 1) := by decide +kernel
theorem dX11_worth_0 : decode cX11_worth 0 = .ok (.aload_n 0, 1) := by decide +kernel
theorem dX11_worth_1 : decode cX11_worth 1 = .ok (.getfield 40, 3) := by decide +kernel
theorem dX11_worth_4 : decode cX11_worth 4 = .ok (.aload_n 0, 1) := by decide +kernel
theorem dX11_worth_5 : decode cX11_worth 5 = .ok (.getfield 47, 3) := by decide +kernel
theorem dX11_worth_8 : decode cX11_worth 8 = .ok (.invokevirtual 236, 3) := by decide +kernel
theorem dX11_worth_11 : decode cX11_worth 11 = .ok (.astore_n 1, 1) := by decide +kernel
theorem dX11_worth_12 : decode cX11_worth 12 = .ok (.iconst 0, 1) := by decide +kernel
theorem dX11_worth_13 : decode cX11_worth 13 = .ok (.istore_n 2, 1) := by decide +kernel
theorem dX11_worth_14 : decode cX11_worth 14 = .ok (.iconst 0, 1) := by decide +kernel
theorem dX11_worth_15 : decode cX11_worth 15 = .ok (.istore_n 3, 1) := by decide +kernel
theorem dX11_worth_16 : decode cX11_worth 16 = .ok (.iload_n 3, 1) := by decide +kernel
theorem dX11_worth_17 : decode cX11_worth 17 = .ok (.aload_n 1, 1) := by decide +kernel
theorem dX11_worth_18 : decode cX11_worth 18 = .ok (.getfield 133, 3) := by decide +kernel
theorem dX11_worth_21 : decode cX11_worth 21 = .ok (.if_icmp .ge 26, 3) := by decide +kernel
theorem dX11_worth_24 : decode cX11_worth 24 = .ok (.aload_n 1, 1) := by decide +kernel
theorem dX11_worth_25 : decode cX11_worth 25 = .ok (.iload_n 3, 1) := by decide +kernel
theorem dX11_worth_26 : decode cX11_worth 26 = .ok (.invokevirtual 240, 3) := by decide +kernel
theorem dX11_worth_29 : decode cX11_worth 29 = .ok (.ifCond .eq 12, 3) := by decide +kernel
theorem dX11_worth_32 : decode cX11_worth 32 = .ok (.iload_n 2, 1) := by decide +kernel
theorem dX11_worth_33 : decode cX11_worth 33 = .ok (.aload_n 1, 1) := by decide +kernel
theorem dX11_worth_34 : decode cX11_worth 34 = .ok (.getfield 149, 3) := by decide +kernel
theorem dX11_worth_37 : decode cX11_worth 37 = .ok (.iload_n 3, 1) := by decide +kernel
theorem dX11_worth_38 : decode cX11_worth 38 = .ok (.iaload, 1) := by decide +kernel
theorem dX11_worth_39 : decode cX11_worth 39 = .ok (.iadd, 1) := by decide +kernel
theorem dX11_worth_40 : decode cX11_worth 40 = .ok (.istore_n 2, 1) := by decide +kernel
theorem dX11_worth_41 : decode cX11_worth 41 = .ok (.iinc 3 1, 3) := by decide +kernel
theorem dX11_worth_44 : decode cX11_worth 44 = .ok (.goto (-28), 3) := by decide +kernel
theorem dX11_worth_47 : decode cX11_worth 47 = .ok (.iload_n 2, 1) := by decide +kernel
theorem dX11_worth_48 : decode cX11_worth 48 = .ok (.ireturn, 1) := by decide +kernel
theorem dX11_stuck_0 : decode cX11_stuck 0 = .ok (.aload_n 0, 1) := by decide +kernel
theorem dX11_stuck_1 : decode cX11_stuck 1 = .ok (.getfield 40, 3) := by decide +kernel
theorem dX11_stuck_4 : decode cX11_stuck 4 = .ok (.aload_n 0, 1) := by decide +kernel
theorem dX11_stuck_5 : decode cX11_stuck 5 = .ok (.getfield 47, 3) := by decide +kernel
theorem dX11_stuck_8 : decode cX11_stuck 8 = .ok (.invokevirtual 236, 3) := by decide +kernel
theorem dX11_stuck_11 : decode cX11_stuck 11 = .ok (.astore_n 1, 1) := by decide +kernel
theorem dX11_stuck_12 : decode cX11_stuck 12 = .ok (.iconst 0, 1) := by decide +kernel
theorem dX11_stuck_13 : decode cX11_stuck 13 = .ok (.istore_n 2, 1) := by decide +kernel
theorem dX11_stuck_14 : decode cX11_stuck 14 = .ok (.iconst 0, 1) := by decide +kernel
theorem dX11_stuck_15 : decode cX11_stuck 15 = .ok (.istore_n 3, 1) := by decide +kernel
theorem dX11_stuck_16 : decode cX11_stuck 16 = .ok (.iload_n 3, 1) := by decide +kernel
theorem dX11_stuck_17 : decode cX11_stuck 17 = .ok (.aload_n 0, 1) := by decide +kernel
theorem dX11_stuck_18 : decode cX11_stuck 18 = .ok (.getfield 47, 3) := by decide +kernel
theorem dX11_stuck_21 : decode cX11_stuck 21 = .ok (.getfield 133, 3) := by decide +kernel
theorem dX11_stuck_24 : decode cX11_stuck 24 = .ok (.if_icmp .ge 68, 3) := by decide +kernel
theorem dX11_stuck_27 : decode cX11_stuck 27 = .ok (.aload_n 1, 1) := by decide +kernel
theorem dX11_stuck_28 : decode cX11_stuck 28 = .ok (.getfield 140, 3) := by decide +kernel
theorem dX11_stuck_31 : decode cX11_stuck 31 = .ok (.iload_n 3, 1) := by decide +kernel
theorem dX11_stuck_32 : decode cX11_stuck 32 = .ok (.iaload, 1) := by decide +kernel
theorem dX11_stuck_33 : decode cX11_stuck 33 = .ok (.iconst (-1), 1) := by decide +kernel
theorem dX11_stuck_34 : decode cX11_stuck 34 = .ok (.if_icmp .ne 25, 3) := by decide +kernel
theorem dX11_stuck_37 : decode cX11_stuck 37 = .ok (.aload_n 1, 1) := by decide +kernel
theorem dX11_stuck_38 : decode cX11_stuck 38 = .ok (.getfield 152, 3) := by decide +kernel
theorem dX11_stuck_41 : decode cX11_stuck 41 = .ok (.iload_n 3, 1) := by decide +kernel
theorem dX11_stuck_42 : decode cX11_stuck 42 = .ok (.iaload, 1) := by decide +kernel
theorem dX11_stuck_43 : decode cX11_stuck 43 = .ok (.aload_n 0, 1) := by decide +kernel
theorem dX11_stuck_44 : decode cX11_stuck 44 = .ok (.getfield 47, 3) := by decide +kernel
theorem dX11_stuck_47 : decode cX11_stuck 47 = .ok (.getfield 152, 3) := by decide +kernel
theorem dX11_stuck_50 : decode cX11_stuck 50 = .ok (.iload_n 3, 1) := by decide +kernel
theorem dX11_stuck_51 : decode cX11_stuck 51 = .ok (.iaload, 1) := by decide +kernel
theorem dX11_stuck_52 : decode cX11_stuck 52 = .ok (.if_icmp .ne 7, 3) := by decide +kernel
theorem dX11_stuck_55 : decode cX11_stuck 55 = .ok (.iconst 1, 1) := by decide +kernel
theorem dX11_stuck_56 : decode cX11_stuck 56 = .ok (.goto 4, 3) := by decide +kernel
theorem dX11_stuck_59 : decode cX11_stuck 59 = .ok (.iconst 0, 1) := by decide +kernel
theorem dX11_stuck_60 : decode cX11_stuck 60 = .ok (.istore 4, 2) := by decide +kernel
theorem dX11_stuck_62 : decode cX11_stuck 62 = .ok (.aload_n 0, 1) := by decide +kernel
theorem dX11_stuck_63 : decode cX11_stuck 63 = .ok (.getfield 47, 3) := by decide +kernel
theorem dX11_stuck_66 : decode cX11_stuck 66 = .ok (.getfield 134, 3) := by decide +kernel
theorem dX11_stuck_69 : decode cX11_stuck 69 = .ok (.iload_n 3, 1) := by decide +kernel
theorem dX11_stuck_70 : decode cX11_stuck 70 = .ok (.iaload, 1) := by decide +kernel
theorem dX11_stuck_71 : decode cX11_stuck 71 = .ok (.iconst (-1), 1) := by decide +kernel
theorem dX11_stuck_72 : decode cX11_stuck 72 = .ok (.if_icmp .eq 14, 3) := by decide +kernel
theorem dX11_stuck_75 : decode cX11_stuck 75 = .ok (.iload 4, 2) := by decide +kernel
theorem dX11_stuck_77 : decode cX11_stuck 77 = .ok (.ifCond .eq 9, 3) := by decide +kernel
theorem dX11_stuck_80 : decode cX11_stuck 80 = .ok (.iload_n 2, 1) := by decide +kernel
theorem dX11_stuck_81 : decode cX11_stuck 81 = .ok (.iconst 1, 1) := by decide +kernel
theorem dX11_stuck_82 : decode cX11_stuck 82 = .ok (.iload_n 3, 1) := by decide +kernel
theorem dX11_stuck_83 : decode cX11_stuck 83 = .ok (.ishl, 1) := by decide +kernel
theorem dX11_stuck_84 : decode cX11_stuck 84 = .ok (.ior, 1) := by decide +kernel
theorem dX11_stuck_85 : decode cX11_stuck 85 = .ok (.istore_n 2, 1) := by decide +kernel
theorem dX11_stuck_86 : decode cX11_stuck 86 = .ok (.iinc 3 1, 3) := by decide +kernel
theorem dX11_stuck_89 : decode cX11_stuck 89 = .ok (.goto (-73), 3) := by decide +kernel
theorem dX11_stuck_92 : decode cX11_stuck 92 = .ok (.iload_n 2, 1) := by decide +kernel
theorem dX11_stuck_93 : decode cX11_stuck 93 = .ok (.ireturn, 1) := by decide +kernel
theorem dX11_meets_0 : decode cX11_meets 0 = .ok (.aload_n 0, 1) := by decide +kernel
theorem dX11_meets_1 : decode cX11_meets 1 = .ok (.iload_n 1, 1) := by decide +kernel
theorem dX11_meets_2 : decode cX11_meets 2 = .ok (.iload_n 2, 1) := by decide +kernel
theorem dX11_meets_3 : decode cX11_meets 3 = .ok (.invokevirtual 244, 3) := by decide +kernel
theorem dX11_meets_6 : decode cX11_meets 6 = .ok (.ifCond .eq 19, 3) := by decide +kernel
theorem dX11_meets_9 : decode cX11_meets 9 = .ok (.aload_n 0, 1) := by decide +kernel
theorem dX11_meets_10 : decode cX11_meets 10 = .ok (.getfield 40, 3) := by decide +kernel
theorem dX11_meets_13 : decode cX11_meets 13 = .ok (.aload_n 0, 1) := by decide +kernel
theorem dX11_meets_14 : decode cX11_meets 14 = .ok (.getfield 47, 3) := by decide +kernel
theorem dX11_meets_17 : decode cX11_meets 17 = .ok (.iload_n 1, 1) := by decide +kernel
theorem dX11_meets_18 : decode cX11_meets 18 = .ok (.iload_n 2, 1) := by decide +kernel
theorem dX11_meets_19 : decode cX11_meets 19 = .ok (.invokevirtual 247, 3) := by decide +kernel
theorem dX11_meets_22 : decode cX11_meets 22 = .ok (.ifCond .ne 5, 3) := by decide +kernel
theorem dX11_meets_25 : decode cX11_meets 25 = .ok (.iconst (-1), 1) := by decide +kernel
theorem dX11_meets_26 : decode cX11_meets 26 = .ok (.ireturn, 1) := by decide +kernel
theorem dX11_meets_27 : decode cX11_meets 27 = .ok (.iload_n 3, 1) := by decide +kernel
theorem dX11_meets_28 : decode cX11_meets 28 = .ok (.ifCond .ne 11, 3) := by decide +kernel
theorem dX11_meets_31 : decode cX11_meets 31 = .ok (.aload_n 0, 1) := by decide +kernel
theorem dX11_meets_32 : decode cX11_meets 32 = .ok (.getfield 40, 3) := by decide +kernel
theorem dX11_meets_35 : decode cX11_meets 35 = .ok (.getfield 251, 3) := by decide +kernel
theorem dX11_meets_38 : decode cX11_meets 38 = .ok (.ireturn, 1) := by decide +kernel
theorem dX11_meets_39 : decode cX11_meets 39 = .ok (.iload_n 3, 1) := by decide +kernel
theorem dX11_meets_40 : decode cX11_meets 40 = .ok (.iconst 1, 1) := by decide +kernel
theorem dX11_meets_41 : decode cX11_meets 41 = .ok (.if_icmp .ne 13, 3) := by decide +kernel
theorem dX11_meets_44 : decode cX11_meets 44 = .ok (.aload_n 0, 1) := by decide +kernel
theorem dX11_meets_45 : decode cX11_meets 45 = .ok (.getfield 40, 3) := by decide +kernel
theorem dX11_meets_48 : decode cX11_meets 48 = .ok (.getfield 254, 3) := by decide +kernel
theorem dX11_meets_51 : decode cX11_meets 51 = .ok (.goto 4, 3) := by decide +kernel
theorem dX11_meets_54 : decode cX11_meets 54 = .ok (.iconst (-1), 1) := by decide +kernel
theorem dX11_meets_55 : decode cX11_meets 55 = .ok (.ireturn, 1) := by decide +kernel
theorem dX11_buried_0 : decode cX11_buried 0 = .ok (.iload_n 1, 1) := by decide +kernel
theorem dX11_buried_1 : decode cX11_buried 1 = .ok (.aload_n 0, 1) := by decide +kernel
theorem dX11_buried_2 : decode cX11_buried 2 = .ok (.getfield 19, 3) := by decide +kernel
theorem dX11_buried_5 : decode cX11_buried 5 = .ok (.getfield 107, 3) := by decide +kernel
theorem dX11_buried_8 : decode cX11_buried 8 = .ok (.invokestatic 110, 3) := by decide +kernel
theorem dX11_buried_11 : decode cX11_buried 11 = .ok (.ifCond .ne 5, 3) := by decide +kernel
theorem dX11_buried_14 : decode cX11_buried 14 = .ok (.iconst (-1), 1) := by decide +kernel
theorem dX11_buried_15 : decode cX11_buried 15 = .ok (.ireturn, 1) := by decide +kernel
theorem dX11_buried_16 : decode cX11_buried 16 = .ok (.aload_n 0, 1) := by decide +kernel
theorem dX11_buried_17 : decode cX11_buried 17 = .ok (.getfield 47, 3) := by decide +kernel
theorem dX11_buried_20 : decode cX11_buried 20 = .ok (.getfield 114, 3) := by decide +kernel
theorem dX11_buried_23 : decode cX11_buried 23 = .ok (.iload_n 1, 1) := by decide +kernel
theorem dX11_buried_24 : decode cX11_buried 24 = .ok (.iaload, 1) := by decide +kernel
theorem dX11_buried_25 : decode cX11_buried 25 = .ok (.iconst 3, 1) := by decide +kernel
theorem dX11_buried_26 : decode cX11_buried 26 = .ok (.if_icmp .ne 11, 3) := by decide +kernel
theorem dX11_buried_29 : decode cX11_buried 29 = .ok (.aload_n 0, 1) := by decide +kernel
theorem dX11_buried_30 : decode cX11_buried 30 = .ok (.getfield 47, 3) := by decide +kernel
theorem dX11_buried_33 : decode cX11_buried 33 = .ok (.getfield 178, 3) := by decide +kernel
theorem dX11_buried_36 : decode cX11_buried 36 = .ok (.ireturn, 1) := by decide +kernel
theorem dX11_buried_37 : decode cX11_buried 37 = .ok (.aload_n 0, 1) := by decide +kernel
theorem dX11_buried_38 : decode cX11_buried 38 = .ok (.getfield 40, 3) := by decide +kernel
theorem dX11_buried_41 : decode cX11_buried 41 = .ok (.aload_n 0, 1) := by decide +kernel
theorem dX11_buried_42 : decode cX11_buried 42 = .ok (.getfield 47, 3) := by decide +kernel
theorem dX11_buried_45 : decode cX11_buried 45 = .ok (.invokevirtual 236, 3) := by decide +kernel
theorem dX11_buried_48 : decode cX11_buried 48 = .ok (.astore_n 2, 1) := by decide +kernel
theorem dX11_buried_49 : decode cX11_buried 49 = .ok (.aload_n 2, 1) := by decide +kernel
theorem dX11_buried_50 : decode cX11_buried 50 = .ok (.getfield 114, 3) := by decide +kernel
theorem dX11_buried_53 : decode cX11_buried 53 = .ok (.iload_n 1, 1) := by decide +kernel
theorem dX11_buried_54 : decode cX11_buried 54 = .ok (.iaload, 1) := by decide +kernel
theorem dX11_buried_55 : decode cX11_buried 55 = .ok (.iconst 3, 1) := by decide +kernel
theorem dX11_buried_56 : decode cX11_buried 56 = .ok (.if_icmp .ne 12, 3) := by decide +kernel
theorem dX11_buried_59 : decode cX11_buried 59 = .ok (.aload_n 2, 1) := by decide +kernel
theorem dX11_buried_60 : decode cX11_buried 60 = .ok (.getfield 120, 3) := by decide +kernel
theorem dX11_buried_63 : decode cX11_buried 63 = .ok (.iload_n 1, 1) := by decide +kernel
theorem dX11_buried_64 : decode cX11_buried 64 = .ok (.iaload, 1) := by decide +kernel
theorem dX11_buried_65 : decode cX11_buried 65 = .ok (.goto 4, 3) := by decide +kernel
theorem dX11_buried_68 : decode cX11_buried 68 = .ok (.iconst (-1), 1) := by decide +kernel
theorem dX11_buried_69 : decode cX11_buried 69 = .ok (.ireturn, 1) := by decide +kernel
theorem dX11_swap_0 : decode cX11_swap 0 = .ok (.aload_n 0, 1) := by decide +kernel
theorem dX11_swap_1 : decode cX11_swap 1 = .ok (.iload_n 1, 1) := by decide +kernel
theorem dX11_swap_2 : decode cX11_swap 2 = .ok (.iload_n 2, 1) := by decide +kernel
theorem dX11_swap_3 : decode cX11_swap 3 = .ok (.invokevirtual 244, 3) := by decide +kernel
theorem dX11_swap_6 : decode cX11_swap 6 = .ok (.ifCond .ne 5, 3) := by decide +kernel
theorem dX11_swap_9 : decode cX11_swap 9 = .ok (.iconst (-1), 1) := by decide +kernel
theorem dX11_swap_10 : decode cX11_swap 10 = .ok (.ireturn, 1) := by decide +kernel
theorem dX11_swap_11 : decode cX11_swap 11 = .ok (.aload_n 0, 1) := by decide +kernel
theorem dX11_swap_12 : decode cX11_swap 12 = .ok (.getfield 47, 3) := by decide +kernel
theorem dX11_swap_15 : decode cX11_swap 15 = .ok (.iload_n 1, 1) := by decide +kernel
theorem dX11_swap_16 : decode cX11_swap 16 = .ok (.invokevirtual 196, 3) := by decide +kernel
theorem dX11_swap_19 : decode cX11_swap 19 = .ok (.istore 4, 2) := by decide +kernel
theorem dX11_swap_21 : decode cX11_swap 21 = .ok (.iload 4, 2) := by decide +kernel
theorem dX11_swap_23 : decode cX11_swap 23 = .ok (.iconst (-1), 1) := by decide +kernel
theorem dX11_swap_24 : decode cX11_swap 24 = .ok (.if_icmp .eq 16, 3) := by decide +kernel
theorem dX11_swap_27 : decode cX11_swap 27 = .ok (.aload_n 0, 1) := by decide +kernel
theorem dX11_swap_28 : decode cX11_swap 28 = .ok (.getfield 47, 3) := by decide +kernel
theorem dX11_swap_31 : decode cX11_swap 31 = .ok (.iload_n 2, 1) := by decide +kernel
theorem dX11_swap_32 : decode cX11_swap 32 = .ok (.invokevirtual 196, 3) := by decide +kernel
theorem dX11_swap_35 : decode cX11_swap 35 = .ok (.iload 4, 2) := by decide +kernel
theorem dX11_swap_37 : decode cX11_swap 37 = .ok (.if_icmp .eq 5, 3) := by decide +kernel
theorem dX11_swap_40 : decode cX11_swap 40 = .ok (.iconst (-1), 1) := by decide +kernel
theorem dX11_swap_41 : decode cX11_swap 41 = .ok (.ireturn, 1) := by decide +kernel
theorem dX11_swap_42 : decode cX11_swap 42 = .ok (.aload_n 0, 1) := by decide +kernel
theorem dX11_swap_43 : decode cX11_swap 43 = .ok (.getfield 40, 3) := by decide +kernel
theorem dX11_swap_46 : decode cX11_swap 46 = .ok (.aload_n 0, 1) := by decide +kernel
theorem dX11_swap_47 : decode cX11_swap 47 = .ok (.getfield 47, 3) := by decide +kernel
theorem dX11_swap_50 : decode cX11_swap 50 = .ok (.iload_n 1, 1) := by decide +kernel
theorem dX11_swap_51 : decode cX11_swap 51 = .ok (.iload_n 2, 1) := by decide +kernel
theorem dX11_swap_52 : decode cX11_swap 52 = .ok (.invokevirtual 257, 3) := by decide +kernel
theorem dX11_swap_55 : decode cX11_swap 55 = .ok (.iload_n 3, 1) := by decide +kernel
theorem dX11_swap_56 : decode cX11_swap 56 = .ok (.tableswitch 52 0 2 #[28, 36, 44], 28) := by decide +kernel
theorem dX11_swap_84 : decode cX11_swap 84 = .ok (.aload_n 0, 1) := by decide +kernel
theorem dX11_swap_85 : decode cX11_swap 85 = .ok (.getfield 40, 3) := by decide +kernel
theorem dX11_swap_88 : decode cX11_swap 88 = .ok (.getfield 261, 3) := by decide +kernel
theorem dX11_swap_91 : decode cX11_swap 91 = .ok (.ireturn, 1) := by decide +kernel
theorem dX11_swap_92 : decode cX11_swap 92 = .ok (.aload_n 0, 1) := by decide +kernel
theorem dX11_swap_93 : decode cX11_swap 93 = .ok (.getfield 40, 3) := by decide +kernel
theorem dX11_swap_96 : decode cX11_swap 96 = .ok (.getfield 264, 3) := by decide +kernel
theorem dX11_swap_99 : decode cX11_swap 99 = .ok (.ireturn, 1) := by decide +kernel
theorem dX11_swap_100 : decode cX11_swap 100 = .ok (.aload_n 0, 1) := by decide +kernel
theorem dX11_swap_101 : decode cX11_swap 101 = .ok (.getfield 40, 3) := by decide +kernel
theorem dX11_swap_104 : decode cX11_swap 104 = .ok (.getfield 267, 3) := by decide +kernel
theorem dX11_swap_107 : decode cX11_swap 107 = .ok (.ireturn, 1) := by decide +kernel
theorem dX11_swap_108 : decode cX11_swap 108 = .ok (.iconst (-1), 1) := by decide +kernel
theorem dX11_swap_109 : decode cX11_swap 109 = .ok (.ireturn, 1) := by decide +kernel
theorem dX11_cover_0 : decode cX11_cover 0 = .ok (.iload_n 1, 1) := by decide +kernel
theorem dX11_cover_1 : decode cX11_cover 1 = .ok (.ifCond .lt 16, 3) := by decide +kernel
theorem dX11_cover_4 : decode cX11_cover 4 = .ok (.iload_n 1, 1) := by decide +kernel
theorem dX11_cover_5 : decode cX11_cover 5 = .ok (.iconst 1, 1) := by decide +kernel
theorem dX11_cover_6 : decode cX11_cover 6 = .ok (.aload_n 0, 1) := by decide +kernel
theorem dX11_cover_7 : decode cX11_cover 7 = .ok (.getfield 19, 3) := by decide +kernel
theorem dX11_cover_10 : decode cX11_cover 10 = .ok (.getfield 155, 3) := by decide +kernel
theorem dX11_cover_13 : decode cX11_cover 13 = .ok (.ishl, 1) := by decide +kernel
theorem dX11_cover_14 : decode cX11_cover 14 = .ok (.if_icmp .lt 5, 3) := by decide +kernel
theorem dX11_cover_17 : decode cX11_cover 17 = .ok (.iconst (-1), 1) := by decide +kernel
theorem dX11_cover_18 : decode cX11_cover 18 = .ok (.ireturn, 1) := by decide +kernel
theorem dX11_cover_19 : decode cX11_cover 19 = .ok (.iconst (-1), 1) := by decide +kernel
theorem dX11_cover_20 : decode cX11_cover 20 = .ok (.istore_n 3, 1) := by decide +kernel
theorem dX11_cover_21 : decode cX11_cover 21 = .ok (.bipush 7, 2) := by decide +kernel
theorem dX11_cover_23 : decode cX11_cover 23 = .ok (.istore 4, 2) := by decide +kernel
theorem dX11_cover_25 : decode cX11_cover 25 = .ok (.iconst 0, 1) := by decide +kernel
theorem dX11_cover_26 : decode cX11_cover 26 = .ok (.istore 5, 2) := by decide +kernel
theorem dX11_cover_28 : decode cX11_cover 28 = .ok (.iload 5, 2) := by decide +kernel
theorem dX11_cover_30 : decode cX11_cover 30 = .ok (.iconst 1, 1) := by decide +kernel
theorem dX11_cover_31 : decode cX11_cover 31 = .ok (.aload_n 0, 1) := by decide +kernel
theorem dX11_cover_32 : decode cX11_cover 32 = .ok (.getfield 19, 3) := by decide +kernel
theorem dX11_cover_35 : decode cX11_cover 35 = .ok (.getfield 107, 3) := by decide +kernel
theorem dX11_cover_38 : decode cX11_cover 38 = .ok (.ishl, 1) := by decide +kernel
theorem dX11_cover_39 : decode cX11_cover 39 = .ok (.if_icmp .ge 43, 3) := by decide +kernel
theorem dX11_cover_42 : decode cX11_cover 42 = .ok (.iload 5, 2) := by decide +kernel
theorem dX11_cover_44 : decode cX11_cover 44 = .ok (.invokestatic 270, 3) := by decide +kernel
theorem dX11_cover_47 : decode cX11_cover 47 = .ok (.istore 6, 2) := by decide +kernel
theorem dX11_cover_49 : decode cX11_cover 49 = .ok (.iload 6, 2) := by decide +kernel
theorem dX11_cover_51 : decode cX11_cover 51 = .ok (.iload 4, 2) := by decide +kernel
theorem dX11_cover_53 : decode cX11_cover 53 = .ok (.if_icmp .ge 23, 3) := by decide +kernel
theorem dX11_cover_56 : decode cX11_cover 56 = .ok (.iload_n 1, 1) := by decide +kernel
theorem dX11_cover_57 : decode cX11_cover 57 = .ok (.aload_n 0, 1) := by decide +kernel
theorem dX11_cover_58 : decode cX11_cover 58 = .ok (.iload 5, 2) := by decide +kernel
theorem dX11_cover_60 : decode cX11_cover 60 = .ok (.invokevirtual 275, 3) := by decide +kernel
theorem dX11_cover_63 : decode cX11_cover 63 = .ok (.iconst (-1), 1) := by decide +kernel
theorem dX11_cover_64 : decode cX11_cover 64 = .ok (.ixor, 1) := by decide +kernel
theorem dX11_cover_65 : decode cX11_cover 65 = .ok (.iand, 1) := by decide +kernel
theorem dX11_cover_66 : decode cX11_cover 66 = .ok (.ifCond .ne 10, 3) := by decide +kernel
theorem dX11_cover_69 : decode cX11_cover 69 = .ok (.iload 5, 2) := by decide +kernel
theorem dX11_cover_71 : decode cX11_cover 71 = .ok (.istore_n 3, 1) := by decide +kernel
theorem dX11_cover_72 : decode cX11_cover 72 = .ok (.iload 6, 2) := by decide +kernel
theorem dX11_cover_74 : decode cX11_cover 74 = .ok (.istore 4, 2) := by decide +kernel
theorem dX11_cover_76 : decode cX11_cover 76 = .ok (.iinc 5 1, 3) := by decide +kernel
theorem dX11_cover_79 : decode cX11_cover 79 = .ok (.goto (-51), 3) := by decide +kernel
theorem dX11_cover_82 : decode cX11_cover 82 = .ok (.iload_n 3, 1) := by decide +kernel
theorem dX11_cover_83 : decode cX11_cover 83 = .ok (.iload_n 2, 1) := by decide +kernel
theorem dX11_cover_84 : decode cX11_cover 84 = .ok (.invokestatic 278, 3) := by decide +kernel
theorem dX11_cover_87 : decode cX11_cover 87 = .ok (.ireturn, 1) := by decide +kernel
theorem dX11_soon_0 : decode cX11_soon 0 = .ok (.iload_n 1, 1) := by decide +kernel
theorem dX11_soon_1 : decode cX11_soon 1 = .ok (.aload_n 0, 1) := by decide +kernel
theorem dX11_soon_2 : decode cX11_soon 2 = .ok (.getfield 19, 3) := by decide +kernel
theorem dX11_soon_5 : decode cX11_soon 5 = .ok (.getfield 155, 3) := by decide +kernel
theorem dX11_soon_8 : decode cX11_soon 8 = .ok (.invokestatic 110, 3) := by decide +kernel
theorem dX11_soon_11 : decode cX11_soon 11 = .ok (.ifCond .eq 17, 3) := by decide +kernel
theorem dX11_soon_14 : decode cX11_soon 14 = .ok (.iload_n 2, 1) := by decide +kernel
theorem dX11_soon_15 : decode cX11_soon 15 = .ok (.aload_n 0, 1) := by decide +kernel
theorem dX11_soon_16 : decode cX11_soon 16 = .ok (.getfield 19, 3) := by decide +kernel
theorem dX11_soon_19 : decode cX11_soon 19 = .ok (.getfield 155, 3) := by decide +kernel
theorem dX11_soon_22 : decode cX11_soon 22 = .ok (.invokestatic 110, 3) := by decide +kernel
theorem dX11_soon_25 : decode cX11_soon 25 = .ok (.ifCond .ne 5, 3) := by decide +kernel
theorem dX11_soon_28 : decode cX11_soon 28 = .ok (.iconst (-1), 1) := by decide +kernel
theorem dX11_soon_29 : decode cX11_soon 29 = .ok (.ireturn, 1) := by decide +kernel
theorem dX11_soon_30 : decode cX11_soon 30 = .ok (.aload_n 0, 1) := by decide +kernel
theorem dX11_soon_31 : decode cX11_soon 31 = .ok (.getfield 40, 3) := by decide +kernel
theorem dX11_soon_34 : decode cX11_soon 34 = .ok (.aload_n 0, 1) := by decide +kernel
theorem dX11_soon_35 : decode cX11_soon 35 = .ok (.getfield 47, 3) := by decide +kernel
theorem dX11_soon_38 : decode cX11_soon 38 = .ok (.iload_n 1, 1) := by decide +kernel
theorem dX11_soon_39 : decode cX11_soon 39 = .ok (.invokevirtual 281, 3) := by decide +kernel
theorem dX11_soon_42 : decode cX11_soon 42 = .ok (.aload_n 0, 1) := by decide +kernel
theorem dX11_soon_43 : decode cX11_soon 43 = .ok (.getfield 40, 3) := by decide +kernel
theorem dX11_soon_46 : decode cX11_soon 46 = .ok (.getfield 285, 3) := by decide +kernel
theorem dX11_soon_49 : decode cX11_soon 49 = .ok (.iload_n 2, 1) := by decide +kernel
theorem dX11_soon_50 : decode cX11_soon 50 = .ok (.iaload, 1) := by decide +kernel
theorem dX11_soon_51 : decode cX11_soon 51 = .ok (.ireturn, 1) := by decide +kernel
theorem dX11_heard_0 : decode cX11_heard 0 = .ok (.iload_n 1, 1) := by decide +kernel
theorem dX11_heard_1 : decode cX11_heard 1 = .ok (.aload_n 0, 1) := by decide +kernel
theorem dX11_heard_2 : decode cX11_heard 2 = .ok (.getfield 19, 3) := by decide +kernel
theorem dX11_heard_5 : decode cX11_heard 5 = .ok (.getfield 155, 3) := by decide +kernel
theorem dX11_heard_8 : decode cX11_heard 8 = .ok (.invokestatic 110, 3) := by decide +kernel
theorem dX11_heard_11 : decode cX11_heard 11 = .ok (.ifCond .ne 5, 3) := by decide +kernel
theorem dX11_heard_14 : decode cX11_heard 14 = .ok (.iconst (-1), 1) := by decide +kernel
theorem dX11_heard_15 : decode cX11_heard 15 = .ok (.ireturn, 1) := by decide +kernel
theorem dX11_heard_16 : decode cX11_heard 16 = .ok (.aload_n 0, 1) := by decide +kernel
theorem dX11_heard_17 : decode cX11_heard 17 = .ok (.getfield 40, 3) := by decide +kernel
theorem dX11_heard_20 : decode cX11_heard 20 = .ok (.aload_n 0, 1) := by decide +kernel
theorem dX11_heard_21 : decode cX11_heard 21 = .ok (.getfield 47, 3) := by decide +kernel
theorem dX11_heard_24 : decode cX11_heard 24 = .ok (.iload_n 1, 1) := by decide +kernel
theorem dX11_heard_25 : decode cX11_heard 25 = .ok (.invokevirtual 281, 3) := by decide +kernel
theorem dX11_heard_28 : decode cX11_heard 28 = .ok (.iconst (-1), 1) := by decide +kernel
theorem dX11_heard_29 : decode cX11_heard 29 = .ok (.istore_n 2, 1) := by decide +kernel
theorem dX11_heard_30 : decode cX11_heard 30 = .ok (.iconst 0, 1) := by decide +kernel
theorem dX11_heard_31 : decode cX11_heard 31 = .ok (.istore_n 3, 1) := by decide +kernel
theorem dX11_heard_32 : decode cX11_heard 32 = .ok (.iload_n 3, 1) := by decide +kernel
theorem dX11_heard_33 : decode cX11_heard 33 = .ok (.aload_n 0, 1) := by decide +kernel
theorem dX11_heard_34 : decode cX11_heard 34 = .ok (.getfield 19, 3) := by decide +kernel
theorem dX11_heard_37 : decode cX11_heard 37 = .ok (.getfield 155, 3) := by decide +kernel
theorem dX11_heard_40 : decode cX11_heard 40 = .ok (.if_icmp .ge 23, 3) := by decide +kernel
theorem dX11_heard_43 : decode cX11_heard 43 = .ok (.iload_n 2, 1) := by decide +kernel
theorem dX11_heard_44 : decode cX11_heard 44 = .ok (.aload_n 0, 1) := by decide +kernel
theorem dX11_heard_45 : decode cX11_heard 45 = .ok (.getfield 40, 3) := by decide +kernel
theorem dX11_heard_48 : decode cX11_heard 48 = .ok (.getfield 285, 3) := by decide +kernel
theorem dX11_heard_51 : decode cX11_heard 51 = .ok (.iload_n 3, 1) := by decide +kernel
theorem dX11_heard_52 : decode cX11_heard 52 = .ok (.iaload, 1) := by decide +kernel
theorem dX11_heard_53 : decode cX11_heard 53 = .ok (.invokestatic 288, 3) := by decide +kernel
theorem dX11_heard_56 : decode cX11_heard 56 = .ok (.istore_n 2, 1) := by decide +kernel
theorem dX11_heard_57 : decode cX11_heard 57 = .ok (.iinc 3 1, 3) := by decide +kernel
theorem dX11_heard_60 : decode cX11_heard 60 = .ok (.goto (-28), 3) := by decide +kernel
theorem dX11_heard_63 : decode cX11_heard 63 = .ok (.iload_n 2, 1) := by decide +kernel
theorem dX11_heard_64 : decode cX11_heard 64 = .ok (.ireturn, 1) := by decide +kernel
theorem dX11_deaf_0 : decode cX11_deaf 0 = .ok (.iload_n 1, 1) := by decide +kernel
theorem dX11_deaf_1 : decode cX11_deaf 1 = .ok (.aload_n 0, 1) := by decide +kernel
theorem dX11_deaf_2 : decode cX11_deaf 2 = .ok (.getfield 19, 3) := by decide +kernel
theorem dX11_deaf_5 : decode cX11_deaf 5 = .ok (.getfield 155, 3) := by decide +kernel
theorem dX11_deaf_8 : decode cX11_deaf 8 = .ok (.invokestatic 110, 3) := by decide +kernel
theorem dX11_deaf_11 : decode cX11_deaf 11 = .ok (.ifCond .ne 5, 3) := by decide +kernel
theorem dX11_deaf_14 : decode cX11_deaf 14 = .ok (.iconst (-1), 1) := by decide +kernel
theorem dX11_deaf_15 : decode cX11_deaf 15 = .ok (.ireturn, 1) := by decide +kernel
theorem dX11_deaf_16 : decode cX11_deaf 16 = .ok (.aload_n 0, 1) := by decide +kernel
theorem dX11_deaf_17 : decode cX11_deaf 17 = .ok (.getfield 40, 3) := by decide +kernel
theorem dX11_deaf_20 : decode cX11_deaf 20 = .ok (.aload_n 0, 1) := by decide +kernel
theorem dX11_deaf_21 : decode cX11_deaf 21 = .ok (.getfield 47, 3) := by decide +kernel
theorem dX11_deaf_24 : decode cX11_deaf 24 = .ok (.iload_n 1, 1) := by decide +kernel
theorem dX11_deaf_25 : decode cX11_deaf 25 = .ok (.invokevirtual 281, 3) := by decide +kernel
theorem dX11_deaf_28 : decode cX11_deaf 28 = .ok (.iconst 0, 1) := by decide +kernel
theorem dX11_deaf_29 : decode cX11_deaf 29 = .ok (.istore_n 2, 1) := by decide +kernel
theorem dX11_deaf_30 : decode cX11_deaf 30 = .ok (.iconst 0, 1) := by decide +kernel
theorem dX11_deaf_31 : decode cX11_deaf 31 = .ok (.istore_n 3, 1) := by decide +kernel
theorem dX11_deaf_32 : decode cX11_deaf 32 = .ok (.iload_n 3, 1) := by decide +kernel
theorem dX11_deaf_33 : decode cX11_deaf 33 = .ok (.aload_n 0, 1) := by decide +kernel
theorem dX11_deaf_34 : decode cX11_deaf 34 = .ok (.getfield 19, 3) := by decide +kernel
theorem dX11_deaf_37 : decode cX11_deaf 37 = .ok (.getfield 155, 3) := by decide +kernel
theorem dX11_deaf_40 : decode cX11_deaf 40 = .ok (.if_icmp .ge 28, 3) := by decide +kernel
theorem dX11_deaf_43 : decode cX11_deaf 43 = .ok (.aload_n 0, 1) := by decide +kernel
theorem dX11_deaf_44 : decode cX11_deaf 44 = .ok (.getfield 40, 3) := by decide +kernel
theorem dX11_deaf_47 : decode cX11_deaf 47 = .ok (.getfield 285, 3) := by decide +kernel
theorem dX11_deaf_50 : decode cX11_deaf 50 = .ok (.iload_n 3, 1) := by decide +kernel
theorem dX11_deaf_51 : decode cX11_deaf 51 = .ok (.iaload, 1) := by decide +kernel
theorem dX11_deaf_52 : decode cX11_deaf 52 = .ok (.iconst (-1), 1) := by decide +kernel
theorem dX11_deaf_53 : decode cX11_deaf 53 = .ok (.if_icmp .ne 9, 3) := by decide +kernel
theorem dX11_deaf_56 : decode cX11_deaf 56 = .ok (.iload_n 2, 1) := by decide +kernel
theorem dX11_deaf_57 : decode cX11_deaf 57 = .ok (.iconst 1, 1) := by decide +kernel
theorem dX11_deaf_58 : decode cX11_deaf 58 = .ok (.iload_n 3, 1) := by decide +kernel
theorem dX11_deaf_59 : decode cX11_deaf 59 = .ok (.ishl, 1) := by decide +kernel
theorem dX11_deaf_60 : decode cX11_deaf 60 = .ok (.ior, 1) := by decide +kernel
theorem dX11_deaf_61 : decode cX11_deaf 61 = .ok (.istore_n 2, 1) := by decide +kernel
theorem dX11_deaf_62 : decode cX11_deaf 62 = .ok (.iinc 3 1, 3) := by decide +kernel
theorem dX11_deaf_65 : decode cX11_deaf 65 = .ok (.goto (-33), 3) := by decide +kernel
theorem dX11_deaf_68 : decode cX11_deaf 68 = .ok (.iload_n 2, 1) := by decide +kernel
theorem dX11_deaf_69 : decode cX11_deaf 69 = .ok (.ireturn, 1) := by decide +kernel
theorem dX11_bars_0 : decode cX11_bars 0 = .ok (.aload_n 0, 1) := by decide +kernel
theorem dX11_bars_1 : decode cX11_bars 1 = .ok (.iload_n 1, 1) := by decide +kernel
theorem dX11_bars_2 : decode cX11_bars 2 = .ok (.iload_n 2, 1) := by decide +kernel
theorem dX11_bars_3 : decode cX11_bars 3 = .ok (.invokevirtual 189, 3) := by decide +kernel
theorem dX11_bars_6 : decode cX11_bars 6 = .ok (.ifCond .ne 5, 3) := by decide +kernel
theorem dX11_bars_9 : decode cX11_bars 9 = .ok (.iconst (-1), 1) := by decide +kernel
theorem dX11_bars_10 : decode cX11_bars 10 = .ok (.ireturn, 1) := by decide +kernel
theorem dX11_bars_11 : decode cX11_bars 11 = .ok (.iconst (-1), 1) := by decide +kernel
theorem dX11_bars_12 : decode cX11_bars 12 = .ok (.istore 4, 2) := by decide +kernel
theorem dX11_bars_14 : decode cX11_bars 14 = .ok (.iconst 4, 1) := by decide +kernel
theorem dX11_bars_15 : decode cX11_bars 15 = .ok (.istore 5, 2) := by decide +kernel
theorem dX11_bars_17 : decode cX11_bars 17 = .ok (.iconst 0, 1) := by decide +kernel
theorem dX11_bars_18 : decode cX11_bars 18 = .ok (.istore 6, 2) := by decide +kernel
theorem dX11_bars_20 : decode cX11_bars 20 = .ok (.iload 6, 2) := by decide +kernel
theorem dX11_bars_22 : decode cX11_bars 22 = .ok (.iconst 1, 1) := by decide +kernel
theorem dX11_bars_23 : decode cX11_bars 23 = .ok (.aload_n 0, 1) := by decide +kernel
theorem dX11_bars_24 : decode cX11_bars 24 = .ok (.getfield 19, 3) := by decide +kernel
theorem dX11_bars_27 : decode cX11_bars 27 = .ok (.getfield 209, 3) := by decide +kernel
theorem dX11_bars_30 : decode cX11_bars 30 = .ok (.ishl, 1) := by decide +kernel
theorem dX11_bars_31 : decode cX11_bars 31 = .ok (.if_icmp .ge 69, 3) := by decide +kernel
theorem dX11_bars_34 : decode cX11_bars 34 = .ok (.iload 6, 2) := by decide +kernel
theorem dX11_bars_36 : decode cX11_bars 36 = .ok (.invokestatic 270, 3) := by decide +kernel
theorem dX11_bars_39 : decode cX11_bars 39 = .ok (.istore 7, 2) := by decide +kernel
theorem dX11_bars_41 : decode cX11_bars 41 = .ok (.iload 7, 2) := by decide +kernel
theorem dX11_bars_43 : decode cX11_bars 43 = .ok (.iload 5, 2) := by decide +kernel
theorem dX11_bars_45 : decode cX11_bars 45 = .ok (.if_icmp .ge 49, 3) := by decide +kernel
theorem dX11_bars_48 : decode cX11_bars 48 = .ok (.iload 6, 2) := by decide +kernel
theorem dX11_bars_50 : decode cX11_bars 50 = .ok (.aload_n 0, 1) := by decide +kernel
theorem dX11_bars_51 : decode cX11_bars 51 = .ok (.getfield 47, 3) := by decide +kernel
theorem dX11_bars_54 : decode cX11_bars 54 = .ok (.getfield 212, 3) := by decide +kernel
theorem dX11_bars_57 : decode cX11_bars 57 = .ok (.iand, 1) := by decide +kernel
theorem dX11_bars_58 : decode cX11_bars 58 = .ok (.ifCond .ne 36, 3) := by decide +kernel
theorem dX11_bars_61 : decode cX11_bars 61 = .ok (.aload_n 0, 1) := by decide +kernel
theorem dX11_bars_62 : decode cX11_bars 62 = .ok (.getfield 19, 3) := by decide +kernel
theorem dX11_bars_65 : decode cX11_bars 65 = .ok (.iload_n 1, 1) := by decide +kernel
theorem dX11_bars_66 : decode cX11_bars 66 = .ok (.aload_n 0, 1) := by decide +kernel
theorem dX11_bars_67 : decode cX11_bars 67 = .ok (.getfield 47, 3) := by decide +kernel
theorem dX11_bars_70 : decode cX11_bars 70 = .ok (.getfield 212, 3) := by decide +kernel
theorem dX11_bars_73 : decode cX11_bars 73 = .ok (.iload 6, 2) := by decide +kernel
theorem dX11_bars_75 : decode cX11_bars 75 = .ok (.ior, 1) := by decide +kernel
theorem dX11_bars_76 : decode cX11_bars 76 = .ok (.invokevirtual 293, 3) := by decide +kernel
theorem dX11_bars_79 : decode cX11_bars 79 = .ok (.iload_n 2, 1) := by decide +kernel
theorem dX11_bars_80 : decode cX11_bars 80 = .ok (.ishr, 1) := by decide +kernel
theorem dX11_bars_81 : decode cX11_bars 81 = .ok (.iconst 1, 1) := by decide +kernel
theorem dX11_bars_82 : decode cX11_bars 82 = .ok (.iand, 1) := by decide +kernel
theorem dX11_bars_83 : decode cX11_bars 83 = .ok (.ifCond .ne 11, 3) := by decide +kernel
theorem dX11_bars_86 : decode cX11_bars 86 = .ok (.iload 6, 2) := by decide +kernel
theorem dX11_bars_88 : decode cX11_bars 88 = .ok (.istore 4, 2) := by decide +kernel
theorem dX11_bars_90 : decode cX11_bars 90 = .ok (.iload 7, 2) := by decide +kernel
theorem dX11_bars_92 : decode cX11_bars 92 = .ok (.istore 5, 2) := by decide +kernel
theorem dX11_bars_94 : decode cX11_bars 94 = .ok (.iinc 6 1, 3) := by decide +kernel
theorem dX11_bars_97 : decode cX11_bars 97 = .ok (.goto (-77), 3) := by decide +kernel
theorem dX11_bars_100 : decode cX11_bars 100 = .ok (.iload 4, 2) := by decide +kernel
theorem dX11_bars_102 : decode cX11_bars 102 = .ok (.iload_n 3, 1) := by decide +kernel
theorem dX11_bars_103 : decode cX11_bars 103 = .ok (.invokestatic 278, 3) := by decide +kernel
theorem dX11_bars_106 : decode cX11_bars 106 = .ok (.ireturn, 1) := by decide +kernel
theorem dX11_trace_0 : decode cX11_trace 0 = .ok (.aload_n 0, 1) := by decide +kernel
theorem dX11_trace_1 : decode cX11_trace 1 = .ok (.iconst 0, 1) := by decide +kernel
theorem dX11_trace_2 : decode cX11_trace 2 = .ok (.putfield 296, 3) := by decide +kernel
theorem dX11_trace_5 : decode cX11_trace 5 = .ok (.aload_n 0, 1) := by decide +kernel
theorem dX11_trace_6 : decode cX11_trace 6 = .ok (.iload_n 1, 1) := by decide +kernel
theorem dX11_trace_7 : decode cX11_trace 7 = .ok (.iload_n 2, 1) := by decide +kernel
theorem dX11_trace_8 : decode cX11_trace 8 = .ok (.invokevirtual 189, 3) := by decide +kernel
theorem dX11_trace_11 : decode cX11_trace 11 = .ok (.ifCond .ne 5, 3) := by decide +kernel
theorem dX11_trace_14 : decode cX11_trace 14 = .ok (.iconst (-1), 1) := by decide +kernel
theorem dX11_trace_15 : decode cX11_trace 15 = .ok (.ireturn, 1) := by decide +kernel
theorem dX11_trace_16 : decode cX11_trace 16 = .ok (.aload_n 0, 1) := by decide +kernel
theorem dX11_trace_17 : decode cX11_trace 17 = .ok (.getfield 40, 3) := by decide +kernel
theorem dX11_trace_20 : decode cX11_trace 20 = .ok (.aload_n 0, 1) := by decide +kernel
theorem dX11_trace_21 : decode cX11_trace 21 = .ok (.getfield 47, 3) := by decide +kernel
theorem dX11_trace_24 : decode cX11_trace 24 = .ok (.iload_n 1, 1) := by decide +kernel
theorem dX11_trace_25 : decode cX11_trace 25 = .ok (.iload_n 2, 1) := by decide +kernel
theorem dX11_trace_26 : decode cX11_trace 26 = .ok (.invokevirtual 299, 3) := by decide +kernel
theorem dX11_trace_29 : decode cX11_trace 29 = .ok (.istore_n 3, 1) := by decide +kernel
theorem dX11_trace_30 : decode cX11_trace 30 = .ok (.iload_n 3, 1) := by decide +kernel
theorem dX11_trace_31 : decode cX11_trace 31 = .ok (.iconst (-1), 1) := by decide +kernel
theorem dX11_trace_32 : decode cX11_trace 32 = .ok (.if_icmp .eq 35, 3) := by decide +kernel
theorem dX11_trace_35 : decode cX11_trace 35 = .ok (.aload_n 0, 1) := by decide +kernel
theorem dX11_trace_36 : decode cX11_trace 36 = .ok (.getfield 40, 3) := by decide +kernel
theorem dX11_trace_39 : decode cX11_trace 39 = .ok (.getfield 303, 3) := by decide +kernel
theorem dX11_trace_42 : decode cX11_trace 42 = .ok (.iconst 0, 1) := by decide +kernel
theorem dX11_trace_43 : decode cX11_trace 43 = .ok (.aload_n 0, 1) := by decide +kernel
theorem dX11_trace_44 : decode cX11_trace 44 = .ok (.getfield 73, 3) := by decide +kernel
theorem dX11_trace_47 : decode cX11_trace 47 = .ok (.iconst 0, 1) := by decide +kernel
theorem dX11_trace_48 : decode cX11_trace 48 = .ok (.aload_n 0, 1) := by decide +kernel
theorem dX11_trace_49 : decode cX11_trace 49 = .ok (.getfield 73, 3) := by decide +kernel
theorem dX11_trace_52 : decode cX11_trace 52 = .ok (.arraylength, 1) := by decide +kernel
theorem dX11_trace_53 : decode cX11_trace 53 = .ok (.invokestatic 306, 3) := by decide +kernel
theorem dX11_trace_56 : decode cX11_trace 56 = .ok (.aload_n 0, 1) := by decide +kernel
theorem dX11_trace_57 : decode cX11_trace 57 = .ok (.aload_n 0, 1) := by decide +kernel
theorem dX11_trace_58 : decode cX11_trace 58 = .ok (.getfield 40, 3) := by decide +kernel
theorem dX11_trace_61 : decode cX11_trace 61 = .ok (.getfield 312, 3) := by decide +kernel
theorem dX11_trace_64 : decode cX11_trace 64 = .ok (.putfield 296, 3) := by decide +kernel
theorem dX11_trace_67 : decode cX11_trace 67 = .ok (.iload_n 3, 1) := by decide +kernel
theorem dX11_trace_68 : decode cX11_trace 68 = .ok (.ireturn, 1) := by decide +kernel
theorem dX11_lies_0 : decode cX11_lies 0 = .ok (.iload_n 1, 1) := by decide +kernel
theorem dX11_lies_1 : decode cX11_lies 1 = .ok (.aload_n 0, 1) := by decide +kernel
theorem dX11_lies_2 : decode cX11_lies 2 = .ok (.getfield 296, 3) := by decide +kernel
theorem dX11_lies_5 : decode cX11_lies 5 = .ok (.invokestatic 110, 3) := by decide +kernel
theorem dX11_lies_8 : decode cX11_lies 8 = .ok (.ifCond .eq 12, 3) := by decide +kernel
theorem dX11_lies_11 : decode cX11_lies 11 = .ok (.aload_n 0, 1) := by decide +kernel
theorem dX11_lies_12 : decode cX11_lies 12 = .ok (.getfield 73, 3) := by decide +kernel
theorem dX11_lies_15 : decode cX11_lies 15 = .ok (.iload_n 1, 1) := by decide +kernel
theorem dX11_lies_16 : decode cX11_lies 16 = .ok (.iaload, 1) := by decide +kernel
theorem dX11_lies_17 : decode cX11_lies 17 = .ok (.goto 4, 3) := by decide +kernel
theorem dX11_lies_20 : decode cX11_lies 20 = .ok (.iconst (-1), 1) := by decide +kernel
theorem dX11_lies_21 : decode cX11_lies 21 = .ok (.ireturn, 1) := by decide +kernel
theorem dX11_had_0 : decode cX11_had 0 = .ok (.iload_n 1, 1) := by decide +kernel
theorem dX11_had_1 : decode cX11_had 1 = .ok (.aload_n 0, 1) := by decide +kernel
theorem dX11_had_2 : decode cX11_had 2 = .ok (.getfield 19, 3) := by decide +kernel
theorem dX11_had_5 : decode cX11_had 5 = .ok (.getfield 107, 3) := by decide +kernel
theorem dX11_had_8 : decode cX11_had 8 = .ok (.invokestatic 110, 3) := by decide +kernel
theorem dX11_had_11 : decode cX11_had 11 = .ok (.ifCond .eq 15, 3) := by decide +kernel
theorem dX11_had_14 : decode cX11_had 14 = .ok (.aload_n 0, 1) := by decide +kernel
theorem dX11_had_15 : decode cX11_had 15 = .ok (.getfield 61, 3) := by decide +kernel
theorem dX11_had_18 : decode cX11_had 18 = .ok (.getfield 315, 3) := by decide +kernel
theorem dX11_had_21 : decode cX11_had 21 = .ok (.bipush 30, 2) := by decide +kernel
theorem dX11_had_23 : decode cX11_had 23 = .ok (.if_icmp .lt 5, 3) := by decide +kernel
theorem dX11_had_26 : decode cX11_had 26 = .ok (.iconst (-1), 1) := by decide +kernel
theorem dX11_had_27 : decode cX11_had 27 = .ok (.ireturn, 1) := by decide +kernel
theorem dX11_had_28 : decode cX11_had 28 = .ok (.aload_n 0, 1) := by decide +kernel
theorem dX11_had_29 : decode cX11_had 29 = .ok (.getfield 61, 3) := by decide +kernel
theorem dX11_had_32 : decode cX11_had 32 = .ok (.iload_n 1, 1) := by decide +kernel
theorem dX11_had_33 : decode cX11_had 33 = .ok (.iload_n 2, 1) := by decide +kernel
theorem dX11_had_34 : decode cX11_had 34 = .ok (.invokevirtual 318, 3) := by decide +kernel
theorem dX11_had_37 : decode cX11_had 37 = .ok (.ireturn, 1) := by decide +kernel
theorem dX11_untell_0 : decode cX11_untell 0 = .ok (.aload_n 0, 1) := by decide +kernel
theorem dX11_untell_1 : decode cX11_untell 1 = .ok (.getfield 61, 3) := by decide +kernel
theorem dX11_untell_4 : decode cX11_untell 4 = .ok (.iload_n 1, 1) := by decide +kernel
theorem dX11_untell_5 : decode cX11_untell 5 = .ok (.invokevirtual 322, 3) := by decide +kernel
theorem dX11_untell_8 : decode cX11_untell 8 = .ok (.ireturn, 1) := by decide +kernel
theorem dX11_later_0 : decode cX11_later 0 = .ok (.iload_n 1, 1) := by decide +kernel
theorem dX11_later_1 : decode cX11_later 1 = .ok (.ifCond .lt 25, 3) := by decide +kernel
theorem dX11_later_4 : decode cX11_later 4 = .ok (.iload_n 1, 1) := by decide +kernel
theorem dX11_later_5 : decode cX11_later 5 = .ok (.sipush 1000, 3) := by decide +kernel
theorem dX11_later_8 : decode cX11_later 8 = .ok (.if_icmp .gt 18, 3) := by decide +kernel
theorem dX11_later_11 : decode cX11_later 11 = .ok (.aload_n 0, 1) := by decide +kernel
theorem dX11_later_12 : decode cX11_later 12 = .ok (.getfield 61, 3) := by decide +kernel
theorem dX11_later_15 : decode cX11_later 15 = .ok (.getfield 325, 3) := by decide +kernel
theorem dX11_later_18 : decode cX11_later 18 = .ok (.iload_n 1, 1) := by decide +kernel
theorem dX11_later_19 : decode cX11_later 19 = .ok (.iadd, 1) := by decide +kernel
theorem dX11_later_20 : decode cX11_later 20 = .ok (.ldc_w 328, 3) := by decide +kernel
theorem dX11_later_23 : decode cX11_later 23 = .ok (.if_icmp .le 5, 3) := by decide +kernel
theorem dX11_later_26 : decode cX11_later 26 = .ok (.iconst (-1), 1) := by decide +kernel
theorem dX11_later_27 : decode cX11_later 27 = .ok (.ireturn, 1) := by decide +kernel
theorem dX11_later_28 : decode cX11_later 28 = .ok (.aload_n 0, 1) := by decide +kernel
theorem dX11_later_29 : decode cX11_later 29 = .ok (.getfield 61, 3) := by decide +kernel
theorem dX11_later_32 : decode cX11_later 32 = .ok (.dup, 1) := by decide +kernel
theorem dX11_later_33 : decode cX11_later 33 = .ok (.getfield 325, 3) := by decide +kernel
theorem dX11_later_36 : decode cX11_later 36 = .ok (.iload_n 1, 1) := by decide +kernel
theorem dX11_later_37 : decode cX11_later 37 = .ok (.iadd, 1) := by decide +kernel
theorem dX11_later_38 : decode cX11_later 38 = .ok (.putfield 325, 3) := by decide +kernel
theorem dX11_later_41 : decode cX11_later 41 = .ok (.aload_n 0, 1) := by decide +kernel
theorem dX11_later_42 : decode cX11_later 42 = .ok (.getfield 61, 3) := by decide +kernel
theorem dX11_later_45 : decode cX11_later 45 = .ok (.getfield 325, 3) := by decide +kernel
theorem dX11_later_48 : decode cX11_later 48 = .ok (.ireturn, 1) := by decide +kernel
theorem dX11_fit_0 : decode cX11_fit 0 = .ok (.iload_n 1, 1) := by decide +kernel
theorem dX11_fit_1 : decode cX11_fit 1 = .ok (.aload_n 0, 1) := by decide +kernel
theorem dX11_fit_2 : decode cX11_fit 2 = .ok (.getfield 19, 3) := by decide +kernel
theorem dX11_fit_5 : decode cX11_fit 5 = .ok (.getfield 155, 3) := by decide +kernel
theorem dX11_fit_8 : decode cX11_fit 8 = .ok (.invokestatic 110, 3) := by decide +kernel
theorem dX11_fit_11 : decode cX11_fit 11 = .ok (.ifCond .eq 12, 3) := by decide +kernel
theorem dX11_fit_14 : decode cX11_fit 14 = .ok (.aload_n 0, 1) := by decide +kernel
theorem dX11_fit_15 : decode cX11_fit 15 = .ok (.iload_n 1, 1) := by decide +kernel
theorem dX11_fit_16 : decode cX11_fit 16 = .ok (.iload_n 2, 1) := by decide +kernel
theorem dX11_fit_17 : decode cX11_fit 17 = .ok (.invokevirtual 329, 3) := by decide +kernel
theorem dX11_fit_20 : decode cX11_fit 20 = .ok (.goto 4, 3) := by decide +kernel
theorem dX11_fit_23 : decode cX11_fit 23 = .ok (.iconst (-1), 1) := by decide +kernel
theorem dX11_fit_24 : decode cX11_fit 24 = .ok (.ireturn, 1) := by decide +kernel
theorem dX11_ask_0 : decode cX11_ask 0 = .ok (.iload_n 1, 1) := by decide +kernel
theorem dX11_ask_1 : decode cX11_ask 1 = .ok (.aload_n 0, 1) := by decide +kernel
theorem dX11_ask_2 : decode cX11_ask 2 = .ok (.getfield 19, 3) := by decide +kernel
theorem dX11_ask_5 : decode cX11_ask 5 = .ok (.getfield 155, 3) := by decide +kernel
theorem dX11_ask_8 : decode cX11_ask 8 = .ok (.invokestatic 110, 3) := by decide +kernel
theorem dX11_ask_11 : decode cX11_ask 11 = .ok (.ifCond .ne 5, 3) := by decide +kernel
theorem dX11_ask_14 : decode cX11_ask 14 = .ok (.iconst (-1), 1) := by decide +kernel
theorem dX11_ask_15 : decode cX11_ask 15 = .ok (.ireturn, 1) := by decide +kernel
theorem dX11_ask_16 : decode cX11_ask 16 = .ok (.aload_n 0, 1) := by decide +kernel
theorem dX11_ask_17 : decode cX11_ask 17 = .ok (.iload_n 1, 1) := by decide +kernel
theorem dX11_ask_18 : decode cX11_ask 18 = .ok (.iload_n 3, 1) := by decide +kernel
theorem dX11_ask_19 : decode cX11_ask 19 = .ok (.invokevirtual 329, 3) := by decide +kernel
theorem dX11_ask_22 : decode cX11_ask 22 = .ok (.istore 4, 2) := by decide +kernel
theorem dX11_ask_24 : decode cX11_ask 24 = .ok (.iload 4, 2) := by decide +kernel
theorem dX11_ask_26 : decode cX11_ask 26 = .ok (.ifCond .ne 5, 3) := by decide +kernel
theorem dX11_ask_29 : decode cX11_ask 29 = .ok (.iconst (-1), 1) := by decide +kernel
theorem dX11_ask_30 : decode cX11_ask 30 = .ok (.ireturn, 1) := by decide +kernel
theorem dX11_ask_31 : decode cX11_ask 31 = .ok (.iconst (-1), 1) := by decide +kernel
theorem dX11_ask_32 : decode cX11_ask 32 = .ok (.istore 5, 2) := by decide +kernel
theorem dX11_ask_34 : decode cX11_ask 34 = .ok (.bipush 8, 2) := by decide +kernel
theorem dX11_ask_36 : decode cX11_ask 36 = .ok (.istore 6, 2) := by decide +kernel
theorem dX11_ask_38 : decode cX11_ask 38 = .ok (.iconst 0, 1) := by decide +kernel
theorem dX11_ask_39 : decode cX11_ask 39 = .ok (.istore 7, 2) := by decide +kernel
theorem dX11_ask_41 : decode cX11_ask 41 = .ok (.iload 7, 2) := by decide +kernel
theorem dX11_ask_43 : decode cX11_ask 43 = .ok (.aload_n 0, 1) := by decide +kernel
