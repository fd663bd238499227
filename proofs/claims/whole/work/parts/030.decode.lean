theorem dX0_init_0 : decode cX0_init 0 = .ok (.aload_n 0, 1) := by decide +kernel
theorem dX0_init_1 : decode cX0_init 1 = .ok (.invokespecial 3, 3) := by decide +kernel
theorem dX0_init_4 : decode cX0_init 4 = .ok (.aload_n 0, 1) := by decide +kernel
theorem dX0_init_5 : decode cX0_init 5 = .ok (.bipush 8, 2) := by decide +kernel
theorem dX0_init_7 : decode cX0_init 7 = .ok (.newarray .int, 2) := by decide +kernel
theorem dX0_init_9 : decode cX0_init 9 = .ok (.putfield 9, 3) := by decide +kernel
theorem dX0_init_12 : decode cX0_init 12 = .ok (.aload_n 0, 1) := by decide +kernel
theorem dX0_init_13 : decode cX0_init 13 = .ok (.aload_n 1, 1) := by decide +kernel
theorem dX0_init_14 : decode cX0_init 14 = .ok (.putfield 15, 3) := by decide +kernel
theorem dX0_init_17 : decode cX0_init 17 = .ok (.return_, 1) := by decide +kernel
theorem dX0_orderFromBehind_0 : decode cX0_orderFromBehind 0 = .ok (.aload_n 0, 1) := by decide +kernel
theorem dX0_orderFromBehind_1 : decode cX0_orderFromBehind 1 = .ok (.getfield 15, 3) := by decide +kernel
theorem dX0_orderFromBehind_4 : decode cX0_orderFromBehind 4 = .ok (.invokevirtual 19, 3) := by decide +kernel
theorem dX0_orderFromBehind_7 : decode cX0_orderFromBehind 7 = .ok (.istore_n 1, 1) := by decide +kernel
theorem dX0_orderFromBehind_8 : decode cX0_orderFromBehind 8 = .ok (.aload_n 0, 1) := by decide +kernel
theorem dX0_orderFromBehind_9 : decode cX0_orderFromBehind 9 = .ok (.getfield 15, 3) := by decide +kernel
theorem dX0_orderFromBehind_12 : decode cX0_orderFromBehind 12 = .ok (.invokevirtual 25, 3) := by decide +kernel
theorem dX0_orderFromBehind_15 : decode cX0_orderFromBehind 15 = .ok (.istore_n 2, 1) := by decide +kernel
theorem dX0_orderFromBehind_16 : decode cX0_orderFromBehind 16 = .ok (.aload_n 0, 1) := by decide +kernel
theorem dX0_orderFromBehind_17 : decode cX0_orderFromBehind 17 = .ok (.iconst 0, 1) := by decide +kernel
theorem dX0_orderFromBehind_18 : decode cX0_orderFromBehind 18 = .ok (.putfield 28, 3) := by decide +kernel
theorem dX0_orderFromBehind_21 : decode cX0_orderFromBehind 21 = .ok (.aload_n 0, 1) := by decide +kernel
theorem dX0_orderFromBehind_22 : decode cX0_orderFromBehind 22 = .ok (.getfield 15, 3) := by decide +kernel
theorem dX0_orderFromBehind_25 : decode cX0_orderFromBehind 25 = .ok (.getfield 32, 3) := by decide +kernel
theorem dX0_orderFromBehind_28 : decode cX0_orderFromBehind 28 = .ok (.iconst 1, 1) := by decide +kernel
theorem dX0_orderFromBehind_29 : decode cX0_orderFromBehind 29 = .ok (.isub, 1) := by decide +kernel
theorem dX0_orderFromBehind_30 : decode cX0_orderFromBehind 30 = .ok (.istore_n 3, 1) := by decide +kernel
theorem dX0_orderFromBehind_31 : decode cX0_orderFromBehind 31 = .ok (.iload_n 3, 1) := by decide +kernel
theorem dX0_orderFromBehind_32 : decode cX0_orderFromBehind 32 = .ok (.ifCond .lt 77, 3) := by decide +kernel
theorem dX0_orderFromBehind_35 : decode cX0_orderFromBehind 35 = .ok (.aload_n 0, 1) := by decide +kernel
theorem dX0_orderFromBehind_36 : decode cX0_orderFromBehind 36 = .ok (.iload_n 1, 1) := by decide +kernel
theorem dX0_orderFromBehind_37 : decode cX0_orderFromBehind 37 = .ok (.iload_n 2, 1) := by decide +kernel
theorem dX0_orderFromBehind_38 : decode cX0_orderFromBehind 38 = .ok (.invokevirtual 35, 3) := by decide +kernel
theorem dX0_orderFromBehind_41 : decode cX0_orderFromBehind 41 = .ok (.istore 4, 2) := by decide +kernel
theorem dX0_orderFromBehind_43 : decode cX0_orderFromBehind 43 = .ok (.iload 4, 2) := by decide +kernel
theorem dX0_orderFromBehind_45 : decode cX0_orderFromBehind 45 = .ok (.iconst (-1), 1) := by decide +kernel
theorem dX0_orderFromBehind_46 : decode cX0_orderFromBehind 46 = .ok (.if_icmp .ne 4, 3) := by decide +kernel
theorem dX0_orderFromBehind_49 : decode cX0_orderFromBehind 49 = .ok (.return_, 1) := by decide +kernel
theorem dX0_orderFromBehind_50 : decode cX0_orderFromBehind 50 = .ok (.aload_n 0, 1) := by decide +kernel
theorem dX0_orderFromBehind_51 : decode cX0_orderFromBehind 51 = .ok (.getfield 9, 3) := by decide +kernel
theorem dX0_orderFromBehind_54 : decode cX0_orderFromBehind 54 = .ok (.iload_n 3, 1) := by decide +kernel
theorem dX0_orderFromBehind_55 : decode cX0_orderFromBehind 55 = .ok (.iload 4, 2) := by decide +kernel
theorem dX0_orderFromBehind_57 : decode cX0_orderFromBehind 57 = .ok (.iastore, 1) := by decide +kernel
theorem dX0_orderFromBehind_58 : decode cX0_orderFromBehind 58 = .ok (.aload_n 0, 1) := by decide +kernel
theorem dX0_orderFromBehind_59 : decode cX0_orderFromBehind 59 = .ok (.aload_n 0, 1) := by decide +kernel
theorem dX0_orderFromBehind_60 : decode cX0_orderFromBehind 60 = .ok (.getfield 28, 3) := by decide +kernel
theorem dX0_orderFromBehind_63 : decode cX0_orderFromBehind 63 = .ok (.aload_n 0, 1) := by decide +kernel
theorem dX0_orderFromBehind_64 : decode cX0_orderFromBehind 64 = .ok (.getfield 15, 3) := by decide +kernel
theorem dX0_orderFromBehind_67 : decode cX0_orderFromBehind 67 = .ok (.iload 4, 2) := by decide +kernel
theorem dX0_orderFromBehind_69 : decode cX0_orderFromBehind 69 = .ok (.iload_n 2, 1) := by decide +kernel
theorem dX0_orderFromBehind_70 : decode cX0_orderFromBehind 70 = .ok (.invokevirtual 39, 3) := by decide +kernel
theorem dX0_orderFromBehind_73 : decode cX0_orderFromBehind 73 = .ok (.invokestatic 42, 3) := by decide +kernel
theorem dX0_orderFromBehind_76 : decode cX0_orderFromBehind 76 = .ok (.putfield 28, 3) := by decide +kernel
theorem dX0_orderFromBehind_79 : decode cX0_orderFromBehind 79 = .ok (.iload_n 1, 1) := by decide +kernel
theorem dX0_orderFromBehind_80 : decode cX0_orderFromBehind 80 = .ok (.iconst 1, 1) := by decide +kernel
theorem dX0_orderFromBehind_81 : decode cX0_orderFromBehind 81 = .ok (.iload 4, 2) := by decide +kernel
theorem dX0_orderFromBehind_83 : decode cX0_orderFromBehind 83 = .ok (.ishl, 1) := by decide +kernel
theorem dX0_orderFromBehind_84 : decode cX0_orderFromBehind 84 = .ok (.iconst (-1), 1) := by decide +kernel
theorem dX0_orderFromBehind_85 : decode cX0_orderFromBehind 85 = .ok (.ixor, 1) := by decide +kernel
theorem dX0_orderFromBehind_86 : decode cX0_orderFromBehind 86 = .ok (.iand, 1) := by decide +kernel
theorem dX0_orderFromBehind_87 : decode cX0_orderFromBehind 87 = .ok (.istore_n 1, 1) := by decide +kernel
theorem dX0_orderFromBehind_88 : decode cX0_orderFromBehind 88 = .ok (.iload_n 2, 1) := by decide +kernel
theorem dX0_orderFromBehind_89 : decode cX0_orderFromBehind 89 = .ok (.aload_n 0, 1) := by decide +kernel
theorem dX0_orderFromBehind_90 : decode cX0_orderFromBehind 90 = .ok (.getfield 15, 3) := by decide +kernel
theorem dX0_orderFromBehind_93 : decode cX0_orderFromBehind 93 = .ok (.getfield 47, 3) := by decide +kernel
theorem dX0_orderFromBehind_96 : decode cX0_orderFromBehind 96 = .ok (.iconst 0, 1) := by decide +kernel
theorem dX0_orderFromBehind_97 : decode cX0_orderFromBehind 97 = .ok (.aaload, 1) := by decide +kernel
theorem dX0_orderFromBehind_98 : decode cX0_orderFromBehind 98 = .ok (.iload 4, 2) := by decide +kernel
theorem dX0_orderFromBehind_100 : decode cX0_orderFromBehind 100 = .ok (.iaload, 1) := by decide +kernel
theorem dX0_orderFromBehind_101 : decode cX0_orderFromBehind 101 = .ok (.isub, 1) := by decide +kernel
theorem dX0_orderFromBehind_102 : decode cX0_orderFromBehind 102 = .ok (.istore_n 2, 1) := by decide +kernel
theorem dX0_orderFromBehind_103 : decode cX0_orderFromBehind 103 = .ok (.iinc 3 (-1), 3) := by decide +kernel
theorem dX0_orderFromBehind_106 : decode cX0_orderFromBehind 106 = .ok (.goto (-75), 3) := by decide +kernel
theorem dX0_orderFromBehind_109 : decode cX0_orderFromBehind 109 = .ok (.return_, 1) := by decide +kernel
theorem dX0_lastOf_0 : decode cX0_lastOf 0 = .ok (.iconst (-1), 1) := by decide +kernel
theorem dX0_lastOf_1 : decode cX0_lastOf 1 = .ok (.istore_n 3, 1) := by decide +kernel
theorem dX0_lastOf_2 : decode cX0_lastOf 2 = .ok (.aload_n 0, 1) := by decide +kernel
theorem dX0_lastOf_3 : decode cX0_lastOf 3 = .ok (.iload_n 1, 1) := by decide +kernel
theorem dX0_lastOf_4 : decode cX0_lastOf 4 = .ok (.invokevirtual 51, 3) := by decide +kernel
theorem dX0_lastOf_7 : decode cX0_lastOf 7 = .ok (.istore 4, 2) := by decide +kernel
theorem dX0_lastOf_9 : decode cX0_lastOf 9 = .ok (.iconst 0, 1) := by decide +kernel
theorem dX0_lastOf_10 : decode cX0_lastOf 10 = .ok (.istore 5, 2) := by decide +kernel
theorem dX0_lastOf_12 : decode cX0_lastOf 12 = .ok (.iload 5, 2) := by decide +kernel
theorem dX0_lastOf_14 : decode cX0_lastOf 14 = .ok (.aload_n 0, 1) := by decide +kernel
theorem dX0_lastOf_15 : decode cX0_lastOf 15 = .ok (.getfield 15, 3) := by decide +kernel
theorem dX0_lastOf_18 : decode cX0_lastOf 18 = .ok (.getfield 32, 3) := by decide +kernel
theorem dX0_lastOf_21 : decode cX0_lastOf 21 = .ok (.if_icmp .ge 58, 3) := by decide +kernel
theorem dX0_lastOf_24 : decode cX0_lastOf 24 = .ok (.iload_n 1, 1) := by decide +kernel
theorem dX0_lastOf_25 : decode cX0_lastOf 25 = .ok (.iload 5, 2) := by decide +kernel
theorem dX0_lastOf_27 : decode cX0_lastOf 27 = .ok (.invokestatic 55, 3) := by decide +kernel
theorem dX0_lastOf_30 : decode cX0_lastOf 30 = .ok (.ifCond .eq 43, 3) := by decide +kernel
theorem dX0_lastOf_33 : decode cX0_lastOf 33 = .ok (.iload 4, 2) := by decide +kernel
theorem dX0_lastOf_35 : decode cX0_lastOf 35 = .ok (.iload 5, 2) := by decide +kernel
theorem dX0_lastOf_37 : decode cX0_lastOf 37 = .ok (.invokestatic 55, 3) := by decide +kernel
theorem dX0_lastOf_40 : decode cX0_lastOf 40 = .ok (.ifCond .ne 33, 3) := by decide +kernel
theorem dX0_lastOf_43 : decode cX0_lastOf 43 = .ok (.iload_n 3, 1) := by decide +kernel
theorem dX0_lastOf_44 : decode cX0_lastOf 44 = .ok (.iconst (-1), 1) := by decide +kernel
theorem dX0_lastOf_45 : decode cX0_lastOf 45 = .ok (.if_icmp .eq 25, 3) := by decide +kernel
theorem dX0_lastOf_48 : decode cX0_lastOf 48 = .ok (.aload_n 0, 1) := by decide +kernel
theorem dX0_lastOf_49 : decode cX0_lastOf 49 = .ok (.getfield 15, 3) := by decide +kernel
theorem dX0_lastOf_52 : decode cX0_lastOf 52 = .ok (.iload 5, 2) := by decide +kernel
theorem dX0_lastOf_54 : decode cX0_lastOf 54 = .ok (.iload_n 2, 1) := by decide +kernel
theorem dX0_lastOf_55 : decode cX0_lastOf 55 = .ok (.invokevirtual 39, 3) := by decide +kernel
theorem dX0_lastOf_58 : decode cX0_lastOf 58 = .ok (.aload_n 0, 1) := by decide +kernel
theorem dX0_lastOf_59 : decode cX0_lastOf 59 = .ok (.getfield 15, 3) := by decide +kernel
theorem dX0_lastOf_62 : decode cX0_lastOf 62 = .ok (.iload_n 3, 1) := by decide +kernel
theorem dX0_lastOf_63 : decode cX0_lastOf 63 = .ok (.iload_n 2, 1) := by decide +kernel
theorem dX0_lastOf_64 : decode cX0_lastOf 64 = .ok (.invokevirtual 39, 3) := by decide +kernel
theorem dX0_lastOf_67 : decode cX0_lastOf 67 = .ok (.if_icmp .gt 6, 3) := by decide +kernel
theorem dX0_lastOf_70 : decode cX0_lastOf 70 = .ok (.iload 5, 2) := by decide +kernel
theorem dX0_lastOf_72 : decode cX0_lastOf 72 = .ok (.istore_n 3, 1) := by decide +kernel
theorem dX0_lastOf_73 : decode cX0_lastOf 73 = .ok (.iinc 5 1, 3) := by decide +kernel
theorem dX0_lastOf_76 : decode cX0_lastOf 76 = .ok (.goto (-64), 3) := by decide +kernel
theorem dX0_lastOf_79 : decode cX0_lastOf 79 = .ok (.iload_n 3, 1) := by decide +kernel
theorem dX0_lastOf_80 : decode cX0_lastOf 80 = .ok (.ireturn, 1) := by decide +kernel
theorem dX0_leaders_0 : decode cX0_leaders 0 = .ok (.iconst 0, 1) := by decide +kernel
theorem dX0_leaders_1 : decode cX0_leaders 1 = .ok (.istore_n 2, 1) := by decide +kernel
theorem dX0_leaders_2 : decode cX0_leaders 2 = .ok (.iconst 0, 1) := by decide +kernel
theorem dX0_leaders_3 : decode cX0_leaders 3 = .ok (.istore_n 3, 1) := by decide +kernel
theorem dX0_leaders_4 : decode cX0_leaders 4 = .ok (.iload_n 3, 1) := by decide +kernel
theorem dX0_leaders_5 : decode cX0_leaders 5 = .ok (.aload_n 0, 1) := by decide +kernel
theorem dX0_leaders_6 : decode cX0_leaders 6 = .ok (.getfield 15, 3) := by decide +kernel
theorem dX0_leaders_9 : decode cX0_leaders 9 = .ok (.getfield 32, 3) := by decide +kernel
theorem dX0_leaders_12 : decode cX0_leaders 12 = .ok (.if_icmp .ge 29, 3) := by decide +kernel
theorem dX0_leaders_15 : decode cX0_leaders 15 = .ok (.iload_n 1, 1) := by decide +kernel
theorem dX0_leaders_16 : decode cX0_leaders 16 = .ok (.iload_n 3, 1) := by decide +kernel
theorem dX0_leaders_17 : decode cX0_leaders 17 = .ok (.invokestatic 55, 3) := by decide +kernel
theorem dX0_leaders_20 : decode cX0_leaders 20 = .ok (.ifCond .eq 15, 3) := by decide +kernel
theorem dX0_leaders_23 : decode cX0_leaders 23 = .ok (.iload_n 2, 1) := by decide +kernel
theorem dX0_leaders_24 : decode cX0_leaders 24 = .ok (.aload_n 0, 1) := by decide +kernel
theorem dX0_leaders_25 : decode cX0_leaders 25 = .ok (.getfield 15, 3) := by decide +kernel
theorem dX0_leaders_28 : decode cX0_leaders 28 = .ok (.getfield 59, 3) := by decide +kernel
theorem dX0_leaders_31 : decode cX0_leaders 31 = .ok (.iload_n 3, 1) := by decide +kernel
theorem dX0_leaders_32 : decode cX0_leaders 32 = .ok (.iaload, 1) := by decide +kernel
theorem dX0_leaders_33 : decode cX0_leaders 33 = .ok (.ior, 1) := by decide +kernel
theorem dX0_leaders_34 : decode cX0_leaders 34 = .ok (.istore_n 2, 1) := by decide +kernel
theorem dX0_leaders_35 : decode cX0_leaders 35 = .ok (.iinc 3 1, 3) := by decide +kernel
theorem dX0_leaders_38 : decode cX0_leaders 38 = .ok (.goto (-34), 3) := by decide +kernel
theorem dX0_leaders_41 : decode cX0_leaders 41 = .ok (.iload_n 2, 1) := by decide +kernel
theorem dX0_leaders_42 : decode cX0_leaders 42 = .ok (.ireturn, 1) := by decide +kernel
theorem dX0_fewestLate_0 : decode cX0_fewestLate 0 = .ok (.aload_n 0, 1) := by decide +kernel
theorem dX0_fewestLate_1 : decode cX0_fewestLate 1 = .ok (.invokevirtual 62, 3) := by decide +kernel
theorem dX0_fewestLate_4 : decode cX0_fewestLate 4 = .ok (.iconst 0, 1) := by decide +kernel
theorem dX0_fewestLate_5 : decode cX0_fewestLate 5 = .ok (.istore_n 1, 1) := by decide +kernel
theorem dX0_fewestLate_6 : decode cX0_fewestLate 6 = .ok (.iconst 0, 1) := by decide +kernel
theorem dX0_fewestLate_7 : decode cX0_fewestLate 7 = .ok (.istore_n 2, 1) := by decide +kernel
theorem dX0_fewestLate_8 : decode cX0_fewestLate 8 = .ok (.iconst 0, 1) := by decide +kernel
theorem dX0_fewestLate_9 : decode cX0_fewestLate 9 = .ok (.istore_n 3, 1) := by decide +kernel
theorem dX0_fewestLate_10 : decode cX0_fewestLate 10 = .ok (.iload_n 3, 1) := by decide +kernel
theorem dX0_fewestLate_11 : decode cX0_fewestLate 11 = .ok (.aload_n 0, 1) := by decide +kernel
theorem dX0_fewestLate_12 : decode cX0_fewestLate 12 = .ok (.getfield 15, 3) := by decide +kernel
theorem dX0_fewestLate_15 : decode cX0_fewestLate 15 = .ok (.getfield 32, 3) := by decide +kernel
theorem dX0_fewestLate_18 : decode cX0_fewestLate 18 = .ok (.if_icmp .ge 84, 3) := by decide +kernel
theorem dX0_fewestLate_21 : decode cX0_fewestLate 21 = .ok (.aload_n 0, 1) := by decide +kernel
theorem dX0_fewestLate_22 : decode cX0_fewestLate 22 = .ok (.getfield 9, 3) := by decide +kernel
theorem dX0_fewestLate_25 : decode cX0_fewestLate 25 = .ok (.iload_n 3, 1) := by decide +kernel
theorem dX0_fewestLate_26 : decode cX0_fewestLate 26 = .ok (.iaload, 1) := by decide +kernel
theorem dX0_fewestLate_27 : decode cX0_fewestLate 27 = .ok (.istore 4, 2) := by decide +kernel
theorem dX0_fewestLate_29 : decode cX0_fewestLate 29 = .ok (.iload_n 1, 1) := by decide +kernel
theorem dX0_fewestLate_30 : decode cX0_fewestLate 30 = .ok (.iconst 1, 1) := by decide +kernel
theorem dX0_fewestLate_31 : decode cX0_fewestLate 31 = .ok (.iload 4, 2) := by decide +kernel
theorem dX0_fewestLate_33 : decode cX0_fewestLate 33 = .ok (.ishl, 1) := by decide +kernel
theorem dX0_fewestLate_34 : decode cX0_fewestLate 34 = .ok (.ior, 1) := by decide +kernel
theorem dX0_fewestLate_35 : decode cX0_fewestLate 35 = .ok (.istore_n 1, 1) := by decide +kernel
theorem dX0_fewestLate_36 : decode cX0_fewestLate 36 = .ok (.iload_n 2, 1) := by decide +kernel
theorem dX0_fewestLate_37 : decode cX0_fewestLate 37 = .ok (.aload_n 0, 1) := by decide +kernel
theorem dX0_fewestLate_38 : decode cX0_fewestLate 38 = .ok (.getfield 15, 3) := by decide +kernel
theorem dX0_fewestLate_41 : decode cX0_fewestLate 41 = .ok (.getfield 47, 3) := by decide +kernel
theorem dX0_fewestLate_44 : decode cX0_fewestLate 44 = .ok (.iconst 0, 1) := by decide +kernel
theorem dX0_fewestLate_45 : decode cX0_fewestLate 45 = .ok (.aaload, 1) := by decide +kernel
theorem dX0_fewestLate_46 : decode cX0_fewestLate 46 = .ok (.iload 4, 2) := by decide +kernel
theorem dX0_fewestLate_48 : decode cX0_fewestLate 48 = .ok (.iaload, 1) := by decide +kernel
theorem dX0_fewestLate_49 : decode cX0_fewestLate 49 = .ok (.iadd, 1) := by decide +kernel
theorem dX0_fewestLate_50 : decode cX0_fewestLate 50 = .ok (.istore_n 2, 1) := by decide +kernel
theorem dX0_fewestLate_51 : decode cX0_fewestLate 51 = .ok (.aload_n 0, 1) := by decide +kernel
theorem dX0_fewestLate_52 : decode cX0_fewestLate 52 = .ok (.getfield 15, 3) := by decide +kernel
theorem dX0_fewestLate_55 : decode cX0_fewestLate 55 = .ok (.iload 4, 2) := by decide +kernel
theorem dX0_fewestLate_57 : decode cX0_fewestLate 57 = .ok (.iload_n 2, 1) := by decide +kernel
theorem dX0_fewestLate_58 : decode cX0_fewestLate 58 = .ok (.invokevirtual 39, 3) := by decide +kernel
theorem dX0_fewestLate_61 : decode cX0_fewestLate 61 = .ok (.ifCond .le 35, 3) := by decide +kernel
theorem dX0_fewestLate_64 : decode cX0_fewestLate 64 = .ok (.aload_n 0, 1) := by decide +kernel
theorem dX0_fewestLate_65 : decode cX0_fewestLate 65 = .ok (.iload_n 1, 1) := by decide +kernel
theorem dX0_fewestLate_66 : decode cX0_fewestLate 66 = .ok (.iload_n 3, 1) := by decide +kernel
theorem dX0_fewestLate_67 : decode cX0_fewestLate 67 = .ok (.invokevirtual 65, 3) := by decide +kernel
theorem dX0_fewestLate_70 : decode cX0_fewestLate 70 = .ok (.istore 5, 2) := by decide +kernel
theorem dX0_fewestLate_72 : decode cX0_fewestLate 72 = .ok (.iload_n 1, 1) := by decide +kernel
theorem dX0_fewestLate_73 : decode cX0_fewestLate 73 = .ok (.iconst 1, 1) := by decide +kernel
theorem dX0_fewestLate_74 : decode cX0_fewestLate 74 = .ok (.iload 5, 2) := by decide +kernel
theorem dX0_fewestLate_76 : decode cX0_fewestLate 76 = .ok (.ishl, 1) := by decide +kernel
theorem dX0_fewestLate_77 : decode cX0_fewestLate 77 = .ok (.iconst (-1), 1) := by decide +kernel
theorem dX0_fewestLate_78 : decode cX0_fewestLate 78 = .ok (.ixor, 1) := by decide +kernel
theorem dX0_fewestLate_79 : decode cX0_fewestLate 79 = .ok (.iand, 1) := by decide +kernel
theorem dX0_fewestLate_80 : decode cX0_fewestLate 80 = .ok (.istore_n 1, 1) := by decide +kernel
theorem dX0_fewestLate_81 : decode cX0_fewestLate 81 = .ok (.iload_n 2, 1) := by decide +kernel
theorem dX0_fewestLate_82 : decode cX0_fewestLate 82 = .ok (.aload_n 0, 1) := by decide +kernel
theorem dX0_fewestLate_83 : decode cX0_fewestLate 83 = .ok (.getfield 15, 3) := by decide +kernel
theorem dX0_fewestLate_86 : decode cX0_fewestLate 86 = .ok (.getfield 47, 3) := by decide +kernel
theorem dX0_fewestLate_89 : decode cX0_fewestLate 89 = .ok (.iconst 0, 1) := by decide +kernel
theorem dX0_fewestLate_90 : decode cX0_fewestLate 90 = .ok (.aaload, 1) := by decide +kernel
theorem dX0_fewestLate_91 : decode cX0_fewestLate 91 = .ok (.iload 5, 2) := by decide +kernel
theorem dX0_fewestLate_93 : decode cX0_fewestLate 93 = .ok (.iaload, 1) := by decide +kernel
theorem dX0_fewestLate_94 : decode cX0_fewestLate 94 = .ok (.isub, 1) := by decide +kernel
theorem dX0_fewestLate_95 : decode cX0_fewestLate 95 = .ok (.istore_n 2, 1) := by decide +kernel
theorem dX0_fewestLate_96 : decode cX0_fewestLate 96 = .ok (.iinc 3 1, 3) := by decide +kernel
theorem dX0_fewestLate_99 : decode cX0_fewestLate 99 = .ok (.goto (-89), 3) := by decide +kernel
theorem dX0_fewestLate_102 : decode cX0_fewestLate 102 = .ok (.iload_n 1, 1) := by decide +kernel
theorem dX0_fewestLate_103 : decode cX0_fewestLate 103 = .ok (.ireturn, 1) := by decide +kernel
theorem dX0_orderByDue_0 : decode cX0_orderByDue 0 = .ok (.aload_n 0, 1) := by decide +kernel
theorem dX0_orderByDue_1 : decode cX0_orderByDue 1 = .ok (.getfield 15, 3) := by decide +kernel
theorem dX0_orderByDue_4 : decode cX0_orderByDue 4 = .ok (.getfield 47, 3) := by decide +kernel
theorem dX0_orderByDue_7 : decode cX0_orderByDue 7 = .ok (.iconst 2, 1) := by decide +kernel
theorem dX0_orderByDue_8 : decode cX0_orderByDue 8 = .ok (.aaload, 1) := by decide +kernel
theorem dX0_orderByDue_9 : decode cX0_orderByDue 9 = .ok (.astore_n 1, 1) := by decide +kernel
theorem dX0_orderByDue_10 : decode cX0_orderByDue 10 = .ok (.iconst 0, 1) := by decide +kernel
theorem dX0_orderByDue_11 : decode cX0_orderByDue 11 = .ok (.istore_n 2, 1) := by decide +kernel
theorem dX0_orderByDue_12 : decode cX0_orderByDue 12 = .ok (.iload_n 2, 1) := by decide +kernel
theorem dX0_orderByDue_13 : decode cX0_orderByDue 13 = .ok (.aload_n 0, 1) := by decide +kernel
theorem dX0_orderByDue_14 : decode cX0_orderByDue 14 = .ok (.getfield 15, 3) := by decide +kernel
theorem dX0_orderByDue_17 : decode cX0_orderByDue 17 = .ok (.getfield 32, 3) := by decide +kernel
theorem dX0_orderByDue_20 : decode cX0_orderByDue 20 = .ok (.if_icmp .ge 58, 3) := by decide +kernel
theorem dX0_orderByDue_23 : decode cX0_orderByDue 23 = .ok (.iload_n 2, 1) := by decide +kernel
theorem dX0_orderByDue_24 : decode cX0_orderByDue 24 = .ok (.istore_n 3, 1) := by decide +kernel
theorem dX0_orderByDue_25 : decode cX0_orderByDue 25 = .ok (.iload_n 3, 1) := by decide +kernel
theorem dX0_orderByDue_26 : decode cX0_orderByDue 26 = .ok (.ifCond .le 39, 3) := by decide +kernel
theorem dX0_orderByDue_29 : decode cX0_orderByDue 29 = .ok (.aload_n 1, 1) := by decide +kernel
theorem dX0_orderByDue_30 : decode cX0_orderByDue 30 = .ok (.aload_n 0, 1) := by decide +kernel
theorem dX0_orderByDue_31 : decode cX0_orderByDue 31 = .ok (.getfield 9, 3) := by decide +kernel
theorem dX0_orderByDue_34 : decode cX0_orderByDue 34 = .ok (.iload_n 3, 1) := by decide +kernel
theorem dX0_orderByDue_35 : decode cX0_orderByDue 35 = .ok (.iconst 1, 1) := by decide +kernel
theorem dX0_orderByDue_36 : decode cX0_orderByDue 36 = .ok (.isub, 1) := by decide +kernel
theorem dX0_orderByDue_37 : decode cX0_orderByDue 37 = .ok (.iaload, 1) := by decide +kernel
theorem dX0_orderByDue_38 : decode cX0_orderByDue 38 = .ok (.iaload, 1) := by decide +kernel
theorem dX0_orderByDue_39 : decode cX0_orderByDue 39 = .ok (.aload_n 1, 1) := by decide +kernel
theorem dX0_orderByDue_40 : decode cX0_orderByDue 40 = .ok (.iload_n 2, 1) := by decide +kernel
theorem dX0_orderByDue_41 : decode cX0_orderByDue 41 = .ok (.iaload, 1) := by decide +kernel
theorem dX0_orderByDue_42 : decode cX0_orderByDue 42 = .ok (.if_icmp .le 23, 3) := by decide +kernel
theorem dX0_orderByDue_45 : decode cX0_orderByDue 45 = .ok (.aload_n 0, 1) := by decide +kernel
theorem dX0_orderByDue_46 : decode cX0_orderByDue 46 = .ok (.getfield 9, 3) := by decide +kernel
theorem dX0_orderByDue_49 : decode cX0_orderByDue 49 = .ok (.iload_n 3, 1) := by decide +kernel
theorem dX0_orderByDue_50 : decode cX0_orderByDue 50 = .ok (.aload_n 0, 1) := by decide +kernel
theorem dX0_orderByDue_51 : decode cX0_orderByDue 51 = .ok (.getfield 9, 3) := by decide +kernel
theorem dX0_orderByDue_54 : decode cX0_orderByDue 54 = .ok (.iload_n 3, 1) := by decide +kernel
theorem dX0_orderByDue_55 : decode cX0_orderByDue 55 = .ok (.iconst 1, 1) := by decide +kernel
theorem dX0_orderByDue_56 : decode cX0_orderByDue 56 = .ok (.isub, 1) := by decide +kernel
theorem dX0_orderByDue_57 : decode cX0_orderByDue 57 = .ok (.iaload, 1) := by decide +kernel
theorem dX0_orderByDue_58 : decode cX0_orderByDue 58 = .ok (.iastore, 1) := by decide +kernel
theorem dX0_orderByDue_59 : decode cX0_orderByDue 59 = .ok (.iinc 3 (-1), 3) := by decide +kernel
theorem dX0_orderByDue_62 : decode cX0_orderByDue 62 = .ok (.goto (-37), 3) := by decide +kernel
theorem dX0_orderByDue_65 : decode cX0_orderByDue 65 = .ok (.aload_n 0, 1) := by decide +kernel
theorem dX0_orderByDue_66 : decode cX0_orderByDue 66 = .ok (.getfield 9, 3) := by decide +kernel
theorem dX0_orderByDue_69 : decode cX0_orderByDue 69 = .ok (.iload_n 3, 1) := by decide +kernel
theorem dX0_orderByDue_70 : decode cX0_orderByDue 70 = .ok (.iload_n 2, 1) := by decide +kernel
theorem dX0_orderByDue_71 : decode cX0_orderByDue 71 = .ok (.iastore, 1) := by decide +kernel
theorem dX0_orderByDue_72 : decode cX0_orderByDue 72 = .ok (.iinc 2 1, 3) := by decide +kernel
theorem dX0_orderByDue_75 : decode cX0_orderByDue 75 = .ok (.goto (-63), 3) := by decide +kernel
theorem dX0_orderByDue_78 : decode cX0_orderByDue 78 = .ok (.return_, 1) := by decide +kernel
theorem dX0_longestOf_0 : decode cX0_longestOf 0 = .ok (.aload_n 0, 1) := by decide +kernel
theorem dX0_longestOf_1 : decode cX0_longestOf 1 = .ok (.getfield 15, 3) := by decide +kernel
theorem dX0_longestOf_4 : decode cX0_longestOf 4 = .ok (.getfield 47, 3) := by decide +kernel
theorem dX0_longestOf_7 : decode cX0_longestOf 7 = .ok (.iconst 0, 1) := by decide +kernel
theorem dX0_longestOf_8 : decode cX0_longestOf 8 = .ok (.aaload, 1) := by decide +kernel
theorem dX0_longestOf_9 : decode cX0_longestOf 9 = .ok (.astore_n 3, 1) := by decide +kernel
theorem dX0_longestOf_10 : decode cX0_longestOf 10 = .ok (.aload_n 0, 1) := by decide +kernel
theorem dX0_longestOf_11 : decode cX0_longestOf 11 = .ok (.getfield 9, 3) := by decide +kernel
theorem dX0_longestOf_14 : decode cX0_longestOf 14 = .ok (.iload_n 2, 1) := by decide +kernel
theorem dX0_longestOf_15 : decode cX0_longestOf 15 = .ok (.iaload, 1) := by decide +kernel
theorem dX0_longestOf_16 : decode cX0_longestOf 16 = .ok (.istore 4, 2) := by decide +kernel
theorem dX0_longestOf_18 : decode cX0_longestOf 18 = .ok (.iload_n 2, 1) := by decide +kernel
theorem dX0_longestOf_19 : decode cX0_longestOf 19 = .ok (.iconst 1, 1) := by decide +kernel
theorem dX0_longestOf_20 : decode cX0_longestOf 20 = .ok (.isub, 1) := by decide +kernel
theorem dX0_longestOf_21 : decode cX0_longestOf 21 = .ok (.istore 5, 2) := by decide +kernel
theorem dX0_longestOf_23 : decode cX0_longestOf 23 = .ok (.iload 5, 2) := by decide +kernel
theorem dX0_longestOf_25 : decode cX0_longestOf 25 = .ok (.ifCond .lt 48, 3) := by decide +kernel
theorem dX0_longestOf_28 : decode cX0_longestOf 28 = .ok (.iload_n 1, 1) := by decide +kernel
theorem dX0_longestOf_29 : decode cX0_longestOf 29 = .ok (.aload_n 0, 1) := by decide +kernel
theorem dX0_longestOf_30 : decode cX0_longestOf 30 = .ok (.getfield 9, 3) := by decide +kernel
theorem dX0_longestOf_33 : decode cX0_longestOf 33 = .ok (.iload 5, 2) := by decide +kernel
theorem dX0_longestOf_35 : decode cX0_longestOf 35 = .ok (.iaload, 1) := by decide +kernel
theorem dX0_longestOf_36 : decode cX0_longestOf 36 = .ok (.invokestatic 55, 3) := by decide +kernel
theorem dX0_longestOf_39 : decode cX0_longestOf 39 = .ok (.ifCond .eq 28, 3) := by decide +kernel
theorem dX0_longestOf_42 : decode cX0_longestOf 42 = .ok (.aload_n 3, 1) := by decide +kernel
theorem dX0_longestOf_43 : decode cX0_longestOf 43 = .ok (.aload_n 0, 1) := by decide +kernel
theorem dX0_longestOf_44 : decode cX0_longestOf 44 = .ok (.getfield 9, 3) := by decide +kernel
theorem dX0_longestOf_47 : decode cX0_longestOf 47 = .ok (.iload 5, 2) := by decide +kernel
theorem dX0_longestOf_49 : decode cX0_longestOf 49 = .ok (.iaload, 1) := by decide +kernel
theorem dX0_longestOf_50 : decode cX0_longestOf 50 = .ok (.iaload, 1) := by decide +kernel
theorem dX0_longestOf_51 : decode cX0_longestOf 51 = .ok (.aload_n 3, 1) := by decide +kernel
theorem dX0_longestOf_52 : decode cX0_longestOf 52 = .ok (.iload 4, 2) := by decide +kernel
theorem dX0_longestOf_54 : decode cX0_longestOf 54 = .ok (.iaload, 1) := by decide +kernel
theorem dX0_longestOf_55 : decode cX0_longestOf 55 = .ok (.if_icmp .le 12, 3) := by decide +kernel
theorem dX0_longestOf_58 : decode cX0_longestOf 58 = .ok (.aload_n 0, 1) := by decide +kernel
theorem dX0_longestOf_59 : decode cX0_longestOf 59 = .ok (.getfield 9, 3) := by decide +kernel
theorem dX0_longestOf_62 : decode cX0_longestOf 62 = .ok (.iload 5, 2) := by decide +kernel
theorem dX0_longestOf_64 : decode cX0_longestOf 64 = .ok (.iaload, 1) := by decide +kernel
theorem dX0_longestOf_65 : decode cX0_longestOf 65 = .ok (.istore 4, 2) := by decide +kernel
theorem dX0_longestOf_67 : decode cX0_longestOf 67 = .ok (.iinc 5 (-1), 3) := by decide +kernel
theorem dX0_longestOf_70 : decode cX0_longestOf 70 = .ok (.goto (-47), 3) := by decide +kernel
theorem dX0_longestOf_73 : decode cX0_longestOf 73 = .ok (.iload 4, 2) := by decide +kernel
theorem dX0_longestOf_75 : decode cX0_longestOf 75 = .ok (.ireturn, 1) := by decide +kernel
theorem dX1_init_0 : decode cX1_init 0 = .ok (.aload_n 0, 1) := by decide +kernel
theorem dX1_init_1 : decode cX1_init 1 = .ok (.invokespecial 3, 3) := by decide +kernel
theorem dX1_init_4 : decode cX1_init 4 = .ok (.aload_n 0, 1) := by decide +kernel
theorem dX1_init_5 : decode cX1_init 5 = .ok (.bipush 8, 2) := by decide +kernel
theorem dX1_init_7 : decode cX1_init 7 = .ok (.newarray .int, 2) := by decide +kernel
theorem dX1_init_9 : decode cX1_init 9 = .ok (.putfield 9, 3) := by decide +kernel
theorem dX1_init_12 : decode cX1_init 12 = .ok (.aload_n 0, 1) := by decide +kernel
theorem dX1_init_13 : decode cX1_init 13 = .ok (.bipush 8, 2) := by decide +kernel
theorem dX1_init_15 : decode cX1_init 15 = .ok (.newarray .int, 2) := by decide +kernel
theorem dX1_init_17 : decode cX1_init 17 = .ok (.putfield 15, 3) := by decide +kernel
theorem dX1_init_20 : decode cX1_init 20 = .ok (.aload_n 0, 1) := by decide +kernel
theorem dX1_init_21 : decode cX1_init 21 = .ok (.bipush 8, 2) := by decide +kernel
theorem dX1_init_23 : decode cX1_init 23 = .ok (.iconst 4, 1) := by decide +kernel
theorem dX1_init_24 : decode cX1_init 24 = .ok (.multianewarray 18 2, 4) := by decide +kernel
theorem dX1_init_28 : decode cX1_init 28 = .ok (.putfield 20, 3) := by decide +kernel
theorem dX1_init_31 : decode cX1_init 31 = .ok (.aload_n 0, 1) := by decide +kernel
theorem dX1_init_32 : decode cX1_init 32 = .ok (.aload_n 1, 1) := by decide +kernel
theorem dX1_init_33 : decode cX1_init 33 = .ok (.putfield 23, 3) := by decide +kernel
theorem dX1_init_36 : decode cX1_init 36 = .ok (.aload_n 0, 1) := by decide +kernel
theorem dX1_init_37 : decode cX1_init 37 = .ok (.aload_n 2, 1) := by decide +kernel
theorem dX1_init_38 : decode cX1_init 38 = .ok (.putfield 27, 3) := by decide +kernel
theorem dX1_init_41 : decode cX1_init 41 = .ok (.return_, 1) := by decide +kernel
theorem dX1_seek_0 : decode cX1_seek 0 = .ok (.iconst 0, 1) := by decide +kernel
theorem dX1_seek_1 : decode cX1_seek 1 = .ok (.istore_n 1, 1) := by decide +kernel
theorem dX1_seek_2 : decode cX1_seek 2 = .ok (.iload_n 1, 1) := by decide +kernel
theorem dX1_seek_3 : decode cX1_seek 3 = .ok (.aload_n 0, 1) := by decide +kernel
theorem dX1_seek_4 : decode cX1_seek 4 = .ok (.getfield 23, 3) := by decide +kernel
theorem dX1_seek_7 : decode cX1_seek 7 = .ok (.getfield 31, 3) := by decide +kernel
theorem dX1_seek_10 : decode cX1_seek 10 = .ok (.if_icmp .ge 54, 3) := by decide +kernel
theorem dX1_seek_13 : decode cX1_seek 13 = .ok (.iconst 0, 1) := by decide +kernel
theorem dX1_seek_14 : decode cX1_seek 14 = .ok (.istore_n 2, 1) := by decide +kernel
theorem dX1_seek_15 : decode cX1_seek 15 = .ok (.iload_n 2, 1) := by decide +kernel
theorem dX1_seek_16 : decode cX1_seek 16 = .ok (.aload_n 0, 1) := by decide +kernel
theorem dX1_seek_17 : decode cX1_seek 17 = .ok (.getfield 27, 3) := by decide +kernel
theorem dX1_seek_20 : decode cX1_seek 20 = .ok (.getfield 37, 3) := by decide +kernel
theorem dX1_seek_23 : decode cX1_seek 23 = .ok (.if_icmp .ge 35, 3) := by decide +kernel
theorem dX1_seek_26 : decode cX1_seek 26 = .ok (.aload_n 0, 1) := by decide +kernel
theorem dX1_seek_27 : decode cX1_seek 27 = .ok (.getfield 20, 3) := by decide +kernel
theorem dX1_seek_30 : decode cX1_seek 30 = .ok (.iload_n 1, 1) := by decide +kernel
theorem dX1_seek_31 : decode cX1_seek 31 = .ok (.aaload, 1) := by decide +kernel
theorem dX1_seek_32 : decode cX1_seek 32 = .ok (.iload_n 2, 1) := by decide +kernel
theorem dX1_seek_33 : decode cX1_seek 33 = .ok (.aload_n 0, 1) := by decide +kernel
theorem dX1_seek_34 : decode cX1_seek 34 = .ok (.getfield 27, 3) := by decide +kernel
theorem dX1_seek_37 : decode cX1_seek 37 = .ok (.iload_n 1, 1) := by decide +kernel
theorem dX1_seek_38 : decode cX1_seek 38 = .ok (.iload_n 2, 1) := by decide +kernel
theorem dX1_seek_39 : decode cX1_seek 39 = .ok (.iconst 1, 1) := by decide +kernel
theorem dX1_seek_40 : decode cX1_seek 40 = .ok (.iadd, 1) := by decide +kernel
theorem dX1_seek_41 : decode cX1_seek 41 = .ok (.aload_n 0, 1) := by decide +kernel
theorem dX1_seek_42 : decode cX1_seek 42 = .ok (.getfield 27, 3) := by decide +kernel
theorem dX1_seek_45 : decode cX1_seek 45 = .ok (.getfield 37, 3) := by decide +kernel
theorem dX1_seek_48 : decode cX1_seek 48 = .ok (.invokevirtual 40, 3) := by decide +kernel
theorem dX1_seek_51 : decode cX1_seek 51 = .ok (.iastore, 1) := by decide +kernel
theorem dX1_seek_52 : decode cX1_seek 52 = .ok (.iinc 2 1, 3) := by decide +kernel
theorem dX1_seek_55 : decode cX1_seek 55 = .ok (.goto (-40), 3) := by decide +kernel
theorem dX1_seek_58 : decode cX1_seek 58 = .ok (.iinc 1 1, 3) := by decide +kernel
theorem dX1_seek_61 : decode cX1_seek 61 = .ok (.goto (-59), 3) := by decide +kernel
theorem dX1_seek_64 : decode cX1_seek 64 = .ok (.aload_n 0, 1) := by decide +kernel
theorem dX1_seek_65 : decode cX1_seek 65 = .ok (.aload_n 0, 1) := by decide +kernel
theorem dX1_seek_66 : decode cX1_seek 66 = .ok (.getfield 27, 3) := by decide +kernel
theorem dX1_seek_69 : decode cX1_seek 69 = .ok (.invokevirtual 44, 3) := by decide +kernel
theorem dX1_seek_72 : decode cX1_seek 72 = .ok (.putfield 48, 3) := by decide +kernel
theorem dX1_seek_75 : decode cX1_seek 75 = .ok (.aload_n 0, 1) := by decide +kernel
theorem dX1_seek_76 : decode cX1_seek 76 = .ok (.ldc 50, 2) := by decide +kernel
theorem dX1_seek_78 : decode cX1_seek 78 = .ok (.putfield 51, 3) := by decide +kernel
theorem dX1_seek_81 : decode cX1_seek 81 = .ok (.aload_n 0, 1) := by decide +kernel
theorem dX1_seek_82 : decode cX1_seek 82 = .ok (.iconst 0, 1) := by decide +kernel
theorem dX1_seek_83 : decode cX1_seek 83 = .ok (.iconst 0, 1) := by decide +kernel
theorem dX1_seek_84 : decode cX1_seek 84 = .ok (.iconst 0, 1) := by decide +kernel
theorem dX1_seek_85 : decode cX1_seek 85 = .ok (.invokevirtual 54, 3) := by decide +kernel
theorem dX1_seek_88 : decode cX1_seek 88 = .ok (.return_, 1) := by decide +kernel
theorem dX1_extend_0 : decode cX1_extend 0 = .ok (.iload_n 1, 1) := by decide +kernel
theorem dX1_extend_1 : decode cX1_extend 1 = .ok (.aload_n 0, 1) := by decide +kernel
theorem dX1_extend_2 : decode cX1_extend 2 = .ok (.getfield 23, 3) := by decide +kernel
theorem dX1_extend_5 : decode cX1_extend 5 = .ok (.getfield 31, 3) := by decide +kernel
theorem dX1_extend_8 : decode cX1_extend 8 = .ok (.if_icmp .lt 9, 3) := by decide +kernel
theorem dX1_extend_11 : decode cX1_extend 11 = .ok (.aload_n 0, 1) := by decide +kernel
theorem dX1_extend_12 : decode cX1_extend 12 = .ok (.iload_n 3, 1) := by decide +kernel
theorem dX1_extend_13 : decode cX1_extend 13 = .ok (.invokevirtual 58, 3) := by decide +kernel
theorem dX1_extend_16 : decode cX1_extend 16 = .ok (.return_, 1) := by decide +kernel
theorem dX1_extend_17 : decode cX1_extend 17 = .ok (.iconst 0, 1) := by decide +kernel
theorem dX1_extend_18 : decode cX1_extend 18 = .ok (.istore 4, 2) := by decide +kernel
theorem dX1_extend_20 : decode cX1_extend 20 = .ok (.iload 4, 2) := by decide +kernel
theorem dX1_extend_22 : decode cX1_extend 22 = .ok (.aload_n 0, 1) := by decide +kernel
theorem dX1_extend_23 : decode cX1_extend 23 = .ok (.getfield 23, 3) := by decide +kernel
theorem dX1_extend_26 : decode cX1_extend 26 = .ok (.getfield 31, 3) := by decide +kernel
theorem dX1_extend_29 : decode cX1_extend 29 = .ok (.if_icmp .ge 87, 3) := by decide +kernel
theorem dX1_extend_32 : decode cX1_extend 32 = .ok (.aload_n 0, 1) := by decide +kernel
theorem dX1_extend_33 : decode cX1_extend 33 = .ok (.getfield 51, 3) := by decide +kernel
theorem dX1_extend_36 : decode cX1_extend 36 = .ok (.aload_n 0, 1) := by decide +kernel
theorem dX1_extend_37 : decode cX1_extend 37 = .ok (.getfield 48, 3) := by decide +kernel
theorem dX1_extend_40 : decode cX1_extend 40 = .ok (.if_icmp .le 76, 3) := by decide +kernel
theorem dX1_extend_43 : decode cX1_extend 43 = .ok (.iload_n 2, 1) := by decide +kernel
theorem dX1_extend_44 : decode cX1_extend 44 = .ok (.iload 4, 2) := by decide +kernel
theorem dX1_extend_46 : decode cX1_extend 46 = .ok (.invokestatic 62, 3) := by decide +kernel
theorem dX1_extend_49 : decode cX1_extend 49 = .ok (.ifCond .eq 6, 3) := by decide +kernel
theorem dX1_extend_52 : decode cX1_extend 52 = .ok (.goto 58, 3) := by decide +kernel
theorem dX1_extend_55 : decode cX1_extend 55 = .ok (.iload_n 2, 1) := by decide +kernel
theorem dX1_extend_56 : decode cX1_extend 56 = .ok (.iconst 1, 1) := by decide +kernel
theorem dX1_extend_57 : decode cX1_extend 57 = .ok (.iload 4, 2) := by decide +kernel
theorem dX1_extend_59 : decode cX1_extend 59 = .ok (.ishl, 1) := by decide +kernel
theorem dX1_extend_60 : decode cX1_extend 60 = .ok (.ior, 1) := by decide +kernel
theorem dX1_extend_61 : decode cX1_extend 61 = .ok (.istore 5, 2) := by decide +kernel
theorem dX1_extend_63 : decode cX1_extend 63 = .ok (.aload_n 0, 1) := by decide +kernel
theorem dX1_extend_64 : decode cX1_extend 64 = .ok (.getfield 27, 3) := by decide +kernel
theorem dX1_extend_67 : decode cX1_extend 67 = .ok (.iload_n 1, 1) := by decide +kernel
theorem dX1_extend_68 : decode cX1_extend 68 = .ok (.iload 4, 2) := by decide +kernel
theorem dX1_extend_70 : decode cX1_extend 70 = .ok (.invokevirtual 66, 3) := by decide +kernel
theorem dX1_extend_73 : decode cX1_extend 73 = .ok (.istore 6, 2) := by decide +kernel
theorem dX1_extend_75 : decode cX1_extend 75 = .ok (.aload_n 0, 1) := by decide +kernel
theorem dX1_extend_76 : decode cX1_extend 76 = .ok (.iload_n 1, 1) := by decide +kernel
theorem dX1_extend_77 : decode cX1_extend 77 = .ok (.iload 5, 2) := by decide +kernel
theorem dX1_extend_79 : decode cX1_extend 79 = .ok (.iload 6, 2) := by decide +kernel
theorem dX1_extend_81 : decode cX1_extend 81 = .ok (.invokevirtual 70, 3) := by decide +kernel
theorem dX1_extend_84 : decode cX1_extend 84 = .ok (.aload_n 0, 1) := by decide +kernel
theorem dX1_extend_85 : decode cX1_extend 85 = .ok (.getfield 51, 3) := by decide +kernel
theorem dX1_extend_88 : decode cX1_extend 88 = .ok (.if_icmp .ge 22, 3) := by decide +kernel
theorem dX1_extend_91 : decode cX1_extend 91 = .ok (.aload_n 0, 1) := by decide +kernel
theorem dX1_extend_92 : decode cX1_extend 92 = .ok (.getfield 15, 3) := by decide +kernel
theorem dX1_extend_95 : decode cX1_extend 95 = .ok (.iload_n 1, 1) := by decide +kernel
theorem dX1_extend_96 : decode cX1_extend 96 = .ok (.iload 4, 2) := by decide +kernel
theorem dX1_extend_98 : decode cX1_extend 98 = .ok (.iastore, 1) := by decide +kernel
theorem dX1_extend_99 : decode cX1_extend 99 = .ok (.aload_n 0, 1) := by decide +kernel
theorem dX1_extend_100 : decode cX1_extend 100 = .ok (.iload_n 1, 1) := by decide +kernel
theorem dX1_extend_101 : decode cX1_extend 101 = .ok (.iconst 1, 1) := by decide +kernel
theorem dX1_extend_102 : decode cX1_extend 102 = .ok (.iadd, 1) := by decide +kernel
theorem dX1_extend_103 : decode cX1_extend 103 = .ok (.iload 5, 2) := by decide +kernel
theorem dX1_extend_105 : decode cX1_extend 105 = .ok (.iload 6, 2) := by decide +kernel
theorem dX1_extend_107 : decode cX1_extend 107 = .ok (.invokevirtual 54, 3) := by decide +kernel
theorem dX1_extend_110 : decode cX1_extend 110 = .ok (.iinc 4 1, 3) := by decide +kernel
theorem dX1_extend_113 : decode cX1_extend 113 = .ok (.goto (-93), 3) := by decide +kernel
theorem dX1_extend_116 : decode cX1_extend 116 = .ok (.return_, 1) := by decide +kernel
theorem dX1_keepIfSooner_0 : decode cX1_keepIfSooner 0 = .ok (.iload_n 1, 1) := by decide +kernel
theorem dX1_keepIfSooner_1 : decode cX1_keepIfSooner 1 = .ok (.aload_n 0, 1) := by decide +kernel
theorem dX1_keepIfSooner_2 : decode cX1_keepIfSooner 2 = .ok (.getfield 51, 3) := by decide +kernel
theorem dX1_keepIfSooner_5 : decode cX1_keepIfSooner 5 = .ok (.if_icmp .ge 28, 3) := by decide +kernel
theorem dX1_keepIfSooner_8 : decode cX1_keepIfSooner 8 = .ok (.aload_n 0, 1) := by decide +kernel
theorem dX1_keepIfSooner_9 : decode cX1_keepIfSooner 9 = .ok (.iload_n 1, 1) := by decide +kernel
theorem dX1_keepIfSooner_10 : decode cX1_keepIfSooner 10 = .ok (.putfield 51, 3) := by decide +kernel
theorem dX1_keepIfSooner_13 : decode cX1_keepIfSooner 13 = .ok (.aload_n 0, 1) := by decide +kernel
theorem dX1_keepIfSooner_14 : decode cX1_keepIfSooner 14 = .ok (.getfield 15, 3) := by decide +kernel
theorem dX1_keepIfSooner_17 : decode cX1_keepIfSooner 17 = .ok (.iconst 0, 1) := by decide +kernel
theorem dX1_keepIfSooner_18 : decode cX1_keepIfSooner 18 = .ok (.aload_n 0, 1) := by decide +kernel
theorem dX1_keepIfSooner_19 : decode cX1_keepIfSooner 19 = .ok (.getfield 9, 3) := by decide +kernel
theorem dX1_keepIfSooner_22 : decode cX1_keepIfSooner 22 = .ok (.iconst 0, 1) := by decide +kernel
theorem dX1_keepIfSooner_23 : decode cX1_keepIfSooner 23 = .ok (.aload_n 0, 1) := by decide +kernel
theorem dX1_keepIfSooner_24 : decode cX1_keepIfSooner 24 = .ok (.getfield 23, 3) := by decide +kernel
theorem dX1_keepIfSooner_27 : decode cX1_keepIfSooner 27 = .ok (.getfield 31, 3) := by decide +kernel
theorem dX1_keepIfSooner_30 : decode cX1_keepIfSooner 30 = .ok (.invokestatic 73, 3) := by decide +kernel
theorem dX1_keepIfSooner_33 : decode cX1_keepIfSooner 33 = .ok (.return_, 1) := by decide +kernel
theorem dX1_endsAtLeast_0 : decode cX1_endsAtLeast 0 = .ok (.iload_n 2, 1) := by decide +kernel
theorem dX1_endsAtLeast_1 : decode cX1_endsAtLeast 1 = .ok (.aload_n 0, 1) := by decide +kernel
theorem dX1_endsAtLeast_2 : decode cX1_endsAtLeast 2 = .ok (.getfield 23, 3) := by decide +kernel
theorem dX1_endsAtLeast_5 : decode cX1_endsAtLeast 5 = .ok (.invokevirtual 79, 3) := by decide +kernel
theorem dX1_endsAtLeast_8 : decode cX1_endsAtLeast 8 = .ok (.if_icmp .ne 5, 3) := by decide +kernel
theorem dX1_endsAtLeast_11 : decode cX1_endsAtLeast 11 = .ok (.iload_n 3, 1) := by decide +kernel
theorem dX1_endsAtLeast_12 : decode cX1_endsAtLeast 12 = .ok (.ireturn, 1) := by decide +kernel
theorem dX1_endsAtLeast_13 : decode cX1_endsAtLeast 13 = .ok (.iload_n 3, 1) := by decide +kernel
theorem dX1_endsAtLeast_14 : decode cX1_endsAtLeast 14 = .ok (.istore 4, 2) := by decide +kernel
theorem dX1_endsAtLeast_16 : decode cX1_endsAtLeast 16 = .ok (.iconst 0, 1) := by decide +kernel
theorem dX1_endsAtLeast_17 : decode cX1_endsAtLeast 17 = .ok (.istore 5, 2) := by decide +kernel
theorem dX1_endsAtLeast_19 : decode cX1_endsAtLeast 19 = .ok (.iload 5, 2) := by decide +kernel
theorem dX1_endsAtLeast_21 : decode cX1_endsAtLeast 21 = .ok (.aload_n 0, 1) := by decide +kernel
theorem dX1_endsAtLeast_22 : decode cX1_endsAtLeast 22 = .ok (.getfield 27, 3) := by decide +kernel
theorem dX1_endsAtLeast_25 : decode cX1_endsAtLeast 25 = .ok (.getfield 37, 3) := by decide +kernel
theorem dX1_endsAtLeast_28 : decode cX1_endsAtLeast 28 = .ok (.if_icmp .ge 104, 3) := by decide +kernel
theorem dX1_endsAtLeast_31 : decode cX1_endsAtLeast 31 = .ok (.aload_n 0, 1) := by decide +kernel
theorem dX1_endsAtLeast_32 : decode cX1_endsAtLeast 32 = .ok (.getfield 27, 3) := by decide +kernel
theorem dX1_endsAtLeast_35 : decode cX1_endsAtLeast 35 = .ok (.getfield 82, 3) := by decide +kernel
theorem dX1_endsAtLeast_38 : decode cX1_endsAtLeast 38 = .ok (.iload_n 1, 1) := by decide +kernel
theorem dX1_endsAtLeast_39 : decode cX1_endsAtLeast 39 = .ok (.aaload, 1) := by decide +kernel
theorem dX1_endsAtLeast_40 : decode cX1_endsAtLeast 40 = .ok (.iload 5, 2) := by decide +kernel
theorem dX1_endsAtLeast_42 : decode cX1_endsAtLeast 42 = .ok (.iaload, 1) := by decide +kernel
theorem dX1_endsAtLeast_43 : decode cX1_endsAtLeast 43 = .ok (.istore 6, 2) := by decide +kernel
theorem dX1_endsAtLeast_45 : decode cX1_endsAtLeast 45 = .ok (.ldc 50, 2) := by decide +kernel
theorem dX1_endsAtLeast_47 : decode cX1_endsAtLeast 47 = .ok (.istore 7, 2) := by decide +kernel
theorem dX1_endsAtLeast_49 : decode cX1_endsAtLeast 49 = .ok (.iconst 0, 1) := by decide +kernel
theorem dX1_endsAtLeast_50 : decode cX1_endsAtLeast 50 = .ok (.istore 8, 2) := by decide +kernel
theorem dX1_endsAtLeast_52 : decode cX1_endsAtLeast 52 = .ok (.iload 8, 2) := by decide +kernel
theorem dX1_endsAtLeast_54 : decode cX1_endsAtLeast 54 = .ok (.aload_n 0, 1) := by decide +kernel
theorem dX1_endsAtLeast_55 : decode cX1_endsAtLeast 55 = .ok (.getfield 23, 3) := by decide +kernel
theorem dX1_endsAtLeast_58 : decode cX1_endsAtLeast 58 = .ok (.getfield 31, 3) := by decide +kernel
theorem dX1_endsAtLeast_61 : decode cX1_endsAtLeast 61 = .ok (.if_icmp .ge 53, 3) := by decide +kernel
theorem dX1_endsAtLeast_64 : decode cX1_endsAtLeast 64 = .ok (.iload_n 2, 1) := by decide +kernel
theorem dX1_endsAtLeast_65 : decode cX1_endsAtLeast 65 = .ok (.iload 8, 2) := by decide +kernel
theorem dX1_endsAtLeast_67 : decode cX1_endsAtLeast 67 = .ok (.invokestatic 62, 3) := by decide +kernel
theorem dX1_endsAtLeast_70 : decode cX1_endsAtLeast 70 = .ok (.ifCond .ne 38, 3) := by decide +kernel
theorem dX1_endsAtLeast_73 : decode cX1_endsAtLeast 73 = .ok (.iload 6, 2) := by decide +kernel
theorem dX1_endsAtLeast_75 : decode cX1_endsAtLeast 75 = .ok (.aload_n 0, 1) := by decide +kernel
theorem dX1_endsAtLeast_76 : decode cX1_endsAtLeast 76 = .ok (.getfield 23, 3) := by decide +kernel
theorem dX1_endsAtLeast_79 : decode cX1_endsAtLeast 79 = .ok (.getfield 85, 3) := by decide +kernel
theorem dX1_endsAtLeast_82 : decode cX1_endsAtLeast 82 = .ok (.iload 8, 2) := by decide +kernel
theorem dX1_endsAtLeast_84 : decode cX1_endsAtLeast 84 = .ok (.aaload, 1) := by decide +kernel
theorem dX1_endsAtLeast_85 : decode cX1_endsAtLeast 85 = .ok (.iload 5, 2) := by decide +kernel
theorem dX1_endsAtLeast_87 : decode cX1_endsAtLeast 87 = .ok (.iaload, 1) := by decide +kernel
theorem dX1_endsAtLeast_88 : decode cX1_endsAtLeast 88 = .ok (.iadd, 1) := by decide +kernel
theorem dX1_endsAtLeast_89 : decode cX1_endsAtLeast 89 = .ok (.istore 6, 2) := by decide +kernel
theorem dX1_endsAtLeast_91 : decode cX1_endsAtLeast 91 = .ok (.iload 7, 2) := by decide +kernel
theorem dX1_endsAtLeast_93 : decode cX1_endsAtLeast 93 = .ok (.aload_n 0, 1) := by decide +kernel
theorem dX1_endsAtLeast_94 : decode cX1_endsAtLeast 94 = .ok (.getfield 20, 3) := by decide +kernel
theorem dX1_endsAtLeast_97 : decode cX1_endsAtLeast 97 = .ok (.iload 8, 2) := by decide +kernel
theorem dX1_endsAtLeast_99 : decode cX1_endsAtLeast 99 = .ok (.aaload, 1) := by decide +kernel
theorem dX1_endsAtLeast_100 : decode cX1_endsAtLeast 100 = .ok (.iload 5, 2) := by decide +kernel
theorem dX1_endsAtLeast_102 : decode cX1_endsAtLeast 102 = .ok (.iaload, 1) := by decide +kernel
theorem dX1_endsAtLeast_103 : decode cX1_endsAtLeast 103 = .ok (.invokestatic 88, 3) := by decide +kernel
theorem dX1_endsAtLeast_106 : decode cX1_endsAtLeast 106 = .ok (.istore 7, 2) := by decide +kernel
theorem dX1_endsAtLeast_108 : decode cX1_endsAtLeast 108 = .ok (.iinc 8 1, 3) := by decide +kernel
theorem dX1_endsAtLeast_111 : decode cX1_endsAtLeast 111 = .ok (.goto (-59), 3) := by decide +kernel
theorem dX1_endsAtLeast_114 : decode cX1_endsAtLeast 114 = .ok (.iload 4, 2) := by decide +kernel
theorem dX1_endsAtLeast_116 : decode cX1_endsAtLeast 116 = .ok (.iload 6, 2) := by decide +kernel
theorem dX1_endsAtLeast_118 : decode cX1_endsAtLeast 118 = .ok (.iload 7, 2) := by decide +kernel
theorem dX1_endsAtLeast_120 : decode cX1_endsAtLeast 120 = .ok (.iadd, 1) := by decide +kernel
theorem dX1_endsAtLeast_121 : decode cX1_endsAtLeast 121 = .ok (.invokestatic 93, 3) := by decide +kernel
theorem dX1_endsAtLeast_124 : decode cX1_endsAtLeast 124 = .ok (.istore 4, 2) := by decide +kernel
theorem dX1_endsAtLeast_126 : decode cX1_endsAtLeast 126 = .ok (.iinc 5 1, 3) := by decide +kernel
theorem dX1_endsAtLeast_129 : decode cX1_endsAtLeast 129 = .ok (.goto (-110), 3) := by decide +kernel
theorem dX1_endsAtLeast_132 : decode cX1_endsAtLeast 132 = .ok (.iload 4, 2) := by decide +kernel
theorem dX1_endsAtLeast_134 : decode cX1_endsAtLeast 134 = .ok (.ireturn, 1) := by decide +kernel
theorem dX2_init_0 : decode cX2_init 0 = .ok (.aload_n 0, 1) := by decide +kernel
theorem dX2_init_1 : decode cX2_init 1 = .ok (.invokespecial 3, 3) := by decide +kernel
theorem dX2_init_4 : decode cX2_init 4 = .ok (.aload_n 0, 1) := by decide +kernel
theorem dX2_init_5 : decode cX2_init 5 = .ok (.bipush 8, 2) := by decide +kernel
theorem dX2_init_7 : decode cX2_init 7 = .ok (.newarray .int, 2) := by decide +kernel
theorem dX2_init_9 : decode cX2_init 9 = .ok (.putfield 9, 3) := by decide +kernel
theorem dX2_init_12 : decode cX2_init 12 = .ok (.aload_n 0, 1) := by decide +kernel
theorem dX2_init_13 : decode cX2_init 13 = .ok (.bipush 8, 2) := by decide +kernel
theorem dX2_init_15 : decode cX2_init 15 = .ok (.newarray .int, 2) := by decide +kernel
theorem dX2_init_17 : decode cX2_init 17 = .ok (.putfield 15, 3) := by decide +kernel
theorem dX2_init_20 : decode cX2_init 20 = .ok (.aload_n 0, 1) := by decide +kernel
theorem dX2_init_21 : decode cX2_init 21 = .ok (.sipush 768, 3) := by decide +kernel
theorem dX2_init_24 : decode cX2_init 24 = .ok (.newarray .int, 2) := by decide +kernel
theorem dX2_init_26 : decode cX2_init 26 = .ok (.putfield 18, 3) := by decide +kernel
theorem dX2_init_29 : decode cX2_init 29 = .ok (.aload_n 0, 1) := by decide +kernel
theorem dX2_init_30 : decode cX2_init 30 = .ok (.sipush 768, 3) := by decide +kernel
theorem dX2_init_33 : decode cX2_init 33 = .ok (.newarray .int, 2) := by decide +kernel
theorem dX2_init_35 : decode cX2_init 35 = .ok (.putfield 21, 3) := by decide +kernel
theorem dX2_init_38 : decode cX2_init 38 = .ok (.aload_n 0, 1) := by decide +kernel
theorem dX2_init_39 : decode cX2_init 39 = .ok (.aload_n 1, 1) := by decide +kernel
theorem dX2_init_40 : decode cX2_init 40 = .ok (.putfield 24, 3) := by decide +kernel
theorem dX2_init_43 : decode cX2_init 43 = .ok (.return_, 1) := by decide +kernel
theorem dX2_seek_0 : decode cX2_seek 0 = .ok (.aload_n 0, 1) := by decide +kernel
theorem dX2_seek_1 : decode cX2_seek 1 = .ok (.iload_n 1, 1) := by decide +kernel
theorem dX2_seek_2 : decode cX2_seek 2 = .ok (.putfield 28, 3) := by decide +kernel
theorem dX2_seek_5 : decode cX2_seek 5 = .ok (.aload_n 0, 1) := by decide +kernel
theorem dX2_seek_6 : decode cX2_seek 6 = .ok (.ldc 32, 2) := by decide +kernel
theorem dX2_seek_8 : decode cX2_seek 8 = .ok (.putfield 33, 3) := by decide +kernel
theorem dX2_seek_11 : decode cX2_seek 11 = .ok (.aload_n 0, 1) := by decide +kernel
theorem dX2_seek_12 : decode cX2_seek 12 = .ok (.getfield 18, 3) := by decide +kernel
theorem dX2_seek_15 : decode cX2_seek 15 = .ok (.ldc 32, 2) := by decide +kernel
theorem dX2_seek_17 : decode cX2_seek 17 = .ok (.invokestatic 36, 3) := by decide +kernel
theorem dX2_seek_20 : decode cX2_seek 20 = .ok (.aload_n 0, 1) := by decide +kernel
theorem dX2_seek_21 : decode cX2_seek 21 = .ok (.getfield 21, 3) := by decide +kernel
theorem dX2_seek_24 : decode cX2_seek 24 = .ok (.ldc 32, 2) := by decide +kernel
theorem dX2_seek_26 : decode cX2_seek 26 = .ok (.invokestatic 36, 3) := by decide +kernel
theorem dX2_seek_29 : decode cX2_seek 29 = .ok (.aload_n 0, 1) := by decide +kernel
theorem dX2_seek_30 : decode cX2_seek 30 = .ok (.iconst 0, 1) := by decide +kernel
theorem dX2_seek_31 : decode cX2_seek 31 = .ok (.iconst 0, 1) := by decide +kernel
theorem dX2_seek_32 : decode cX2_seek 32 = .ok (.iconst (-1), 1) := by decide +kernel
theorem dX2_seek_33 : decode cX2_seek 33 = .ok (.iconst 0, 1) := by decide +kernel
theorem dX2_seek_34 : decode cX2_seek 34 = .ok (.iconst 0, 1) := by decide +kernel
theorem dX2_seek_35 : decode cX2_seek 35 = .ok (.invokevirtual 42, 3) := by decide +kernel
theorem dX2_seek_38 : decode cX2_seek 38 = .ok (.return_, 1) := by decide +kernel
theorem dX2_extend_0 : decode cX2_extend 0 = .ok (.iload_n 1, 1) := by decide +kernel
theorem dX2_extend_1 : decode cX2_extend 1 = .ok (.aload_n 0, 1) := by decide +kernel
theorem dX2_extend_2 : decode cX2_extend 2 = .ok (.getfield 24, 3) := by decide +kernel
theorem dX2_extend_5 : decode cX2_extend 5 = .ok (.getfield 46, 3) := by decide +kernel
theorem dX2_extend_8 : decode cX2_extend 8 = .ok (.if_icmp .lt 10, 3) := by decide +kernel
theorem dX2_extend_11 : decode cX2_extend 11 = .ok (.aload_n 0, 1) := by decide +kernel
theorem dX2_extend_12 : decode cX2_extend 12 = .ok (.iload 5, 2) := by decide +kernel
theorem dX2_extend_14 : decode cX2_extend 14 = .ok (.invokevirtual 51, 3) := by decide +kernel
theorem dX2_extend_17 : decode cX2_extend 17 = .ok (.return_, 1) := by decide +kernel
theorem dX2_extend_18 : decode cX2_extend 18 = .ok (.iconst 0, 1) := by decide +kernel
theorem dX2_extend_19 : decode cX2_extend 19 = .ok (.istore 6, 2) := by decide +kernel
theorem dX2_extend_21 : decode cX2_extend 21 = .ok (.iload 6, 2) := by decide +kernel
theorem dX2_extend_23 : decode cX2_extend 23 = .ok (.aload_n 0, 1) := by decide +kernel
theorem dX2_extend_24 : decode cX2_extend 24 = .ok (.getfield 24, 3) := by decide +kernel
theorem dX2_extend_27 : decode cX2_extend 27 = .ok (.getfield 46, 3) := by decide +kernel
theorem dX2_extend_30 : decode cX2_extend 30 = .ok (.if_icmp .ge 148, 3) := by decide +kernel
theorem dX2_extend_33 : decode cX2_extend 33 = .ok (.aload_n 0, 1) := by decide +kernel
theorem dX2_extend_34 : decode cX2_extend 34 = .ok (.getfield 24, 3) := by decide +kernel
theorem dX2_extend_37 : decode cX2_extend 37 = .ok (.iload_n 2, 1) := by decide +kernel
theorem dX2_extend_38 : decode cX2_extend 38 = .ok (.iload 6, 2) := by decide +kernel
theorem dX2_extend_40 : decode cX2_extend 40 = .ok (.invokevirtual 55, 3) := by decide +kernel
theorem dX2_extend_43 : decode cX2_extend 43 = .ok (.ifCond .ne 6, 3) := by decide +kernel
theorem dX2_extend_46 : decode cX2_extend 46 = .ok (.goto 126, 3) := by decide +kernel
theorem dX2_extend_49 : decode cX2_extend 49 = .ok (.aload_n 0, 1) := by decide +kernel
theorem dX2_extend_50 : decode cX2_extend 50 = .ok (.getfield 24, 3) := by decide +kernel
theorem dX2_extend_53 : decode cX2_extend 53 = .ok (.iload 4, 2) := by decide +kernel
theorem dX2_extend_55 : decode cX2_extend 55 = .ok (.aload_n 0, 1) := by decide +kernel
theorem dX2_extend_56 : decode cX2_extend 56 = .ok (.getfield 24, 3) := by decide +kernel
theorem dX2_extend_59 : decode cX2_extend 59 = .ok (.iload_n 3, 1) := by decide +kernel
theorem dX2_extend_60 : decode cX2_extend 60 = .ok (.iload 6, 2) := by decide +kernel
theorem dX2_extend_62 : decode cX2_extend 62 = .ok (.invokevirtual 59, 3) := by decide +kernel
theorem dX2_extend_65 : decode cX2_extend 65 = .ok (.iadd, 1) := by decide +kernel
theorem dX2_extend_66 : decode cX2_extend 66 = .ok (.iload 6, 2) := by decide +kernel
theorem dX2_extend_68 : decode cX2_extend 68 = .ok (.invokevirtual 63, 3) := by decide +kernel
theorem dX2_extend_71 : decode cX2_extend 71 = .ok (.istore 7, 2) := by decide +kernel
theorem dX2_extend_73 : decode cX2_extend 73 = .ok (.aload_n 0, 1) := by decide +kernel
theorem dX2_extend_74 : decode cX2_extend 74 = .ok (.getfield 24, 3) := by decide +kernel
theorem dX2_extend_77 : decode cX2_extend 77 = .ok (.aload_n 0, 1) := by decide +kernel
theorem dX2_extend_78 : decode cX2_extend 78 = .ok (.getfield 28, 3) := by decide +kernel
theorem dX2_extend_81 : decode cX2_extend 81 = .ok (.iload 5, 2) := by decide +kernel
theorem dX2_extend_83 : decode cX2_extend 83 = .ok (.iload 6, 2) := by decide +kernel
theorem dX2_extend_85 : decode cX2_extend 85 = .ok (.iload 7, 2) := by decide +kernel
theorem dX2_extend_87 : decode cX2_extend 87 = .ok (.invokevirtual 66, 3) := by decide +kernel
theorem dX2_extend_90 : decode cX2_extend 90 = .ok (.istore 8, 2) := by decide +kernel
theorem dX2_extend_92 : decode cX2_extend 92 = .ok (.iload_n 2, 1) := by decide +kernel
theorem dX2_extend_93 : decode cX2_extend 93 = .ok (.iconst 1, 1) := by decide +kernel
theorem dX2_extend_94 : decode cX2_extend 94 = .ok (.iload 6, 2) := by decide +kernel
theorem dX2_extend_96 : decode cX2_extend 96 = .ok (.ishl, 1) := by decide +kernel
theorem dX2_extend_97 : decode cX2_extend 97 = .ok (.ior, 1) := by decide +kernel
theorem dX2_extend_98 : decode cX2_extend 98 = .ok (.istore 9, 2) := by decide +kernel
theorem dX2_extend_100 : decode cX2_extend 100 = .ok (.aload_n 0, 1) := by decide +kernel
theorem dX2_extend_101 : decode cX2_extend 101 = .ok (.getfield 24, 3) := by decide +kernel
theorem dX2_extend_104 : decode cX2_extend 104 = .ok (.getfield 70, 3) := by decide +kernel
theorem dX2_extend_107 : decode cX2_extend 107 = .ok (.iconst 4, 1) := by decide +kernel
theorem dX2_extend_108 : decode cX2_extend 108 = .ok (.aaload, 1) := by decide +kernel
theorem dX2_extend_109 : decode cX2_extend 109 = .ok (.iload 6, 2) := by decide +kernel
theorem dX2_extend_111 : decode cX2_extend 111 = .ok (.iaload, 1) := by decide +kernel
theorem dX2_extend_112 : decode cX2_extend 112 = .ok (.istore 10, 2) := by decide +kernel
theorem dX2_extend_114 : decode cX2_extend 114 = .ok (.aload_n 0, 1) := by decide +kernel
theorem dX2_extend_115 : decode cX2_extend 115 = .ok (.iload 9, 2) := by decide +kernel
theorem dX2_extend_117 : decode cX2_extend 117 = .ok (.iload 7, 2) := by decide +kernel
theorem dX2_extend_119 : decode cX2_extend 119 = .ok (.iload 8, 2) := by decide +kernel
theorem dX2_extend_121 : decode cX2_extend 121 = .ok (.invokevirtual 74, 3) := by decide +kernel
theorem dX2_extend_124 : decode cX2_extend 124 = .ok (.aload_n 0, 1) := by decide +kernel
theorem dX2_extend_125 : decode cX2_extend 125 = .ok (.getfield 33, 3) := by decide +kernel
theorem dX2_extend_128 : decode cX2_extend 128 = .ok (.if_icmp .ge 44, 3) := by decide +kernel
theorem dX2_extend_131 : decode cX2_extend 131 = .ok (.aload_n 0, 1) := by decide +kernel
theorem dX2_extend_132 : decode cX2_extend 132 = .ok (.iload 9, 2) := by decide +kernel
theorem dX2_extend_134 : decode cX2_extend 134 = .ok (.iload 10, 2) := by decide +kernel
theorem dX2_extend_136 : decode cX2_extend 136 = .ok (.iload 7, 2) := by decide +kernel
theorem dX2_extend_138 : decode cX2_extend 138 = .ok (.iload 8, 2) := by decide +kernel
theorem dX2_extend_140 : decode cX2_extend 140 = .ok (.invokevirtual 78, 3) := by decide +kernel
theorem dX2_extend_143 : decode cX2_extend 143 = .ok (.ifCond .eq 6, 3) := by decide +kernel
theorem dX2_extend_146 : decode cX2_extend 146 = .ok (.goto 26, 3) := by decide +kernel
theorem dX2_extend_149 : decode cX2_extend 149 = .ok (.aload_n 0, 1) := by decide +kernel
theorem dX2_extend_150 : decode cX2_extend 150 = .ok (.getfield 15, 3) := by decide +kernel
theorem dX2_extend_153 : decode cX2_extend 153 = .ok (.iload_n 1, 1) := by decide +kernel
theorem dX2_extend_154 : decode cX2_extend 154 = .ok (.iload 6, 2) := by decide +kernel
theorem dX2_extend_156 : decode cX2_extend 156 = .ok (.iastore, 1) := by decide +kernel
theorem dX2_extend_157 : decode cX2_extend 157 = .ok (.aload_n 0, 1) := by decide +kernel
theorem dX2_extend_158 : decode cX2_extend 158 = .ok (.iload_n 1, 1) := by decide +kernel
theorem dX2_extend_159 : decode cX2_extend 159 = .ok (.iconst 1, 1) := by decide +kernel
theorem dX2_extend_160 : decode cX2_extend 160 = .ok (.iadd, 1) := by decide +kernel
theorem dX2_extend_161 : decode cX2_extend 161 = .ok (.iload 9, 2) := by decide +kernel
theorem dX2_extend_163 : decode cX2_extend 163 = .ok (.iload 10, 2) := by decide +kernel
theorem dX2_extend_165 : decode cX2_extend 165 = .ok (.iload 7, 2) := by decide +kernel
theorem dX2_extend_167 : decode cX2_extend 167 = .ok (.iload 8, 2) := by decide +kernel
theorem dX2_extend_169 : decode cX2_extend 169 = .ok (.invokevirtual 42, 3) := by decide +kernel
theorem dX2_extend_172 : decode cX2_extend 172 = .ok (.iinc 6 1, 3) := by decide +kernel
theorem dX2_extend_175 : decode cX2_extend 175 = .ok (.goto (-154), 3) := by decide +kernel
theorem dX2_extend_178 : decode cX2_extend 178 = .ok (.return_, 1) := by decide +kernel
theorem dX2_keepIfLess_0 : decode cX2_keepIfLess 0 = .ok (.iload_n 1, 1) := by decide +kernel
theorem dX2_keepIfLess_1 : decode cX2_keepIfLess 1 = .ok (.aload_n 0, 1) := by decide +kernel
theorem dX2_keepIfLess_2 : decode cX2_keepIfLess 2 = .ok (.getfield 33, 3) := by decide +kernel
theorem dX2_keepIfLess_5 : decode cX2_keepIfLess 5 = .ok (.if_icmp .ge 28, 3) := by decide +kernel
theorem dX2_keepIfLess_8 : decode cX2_keepIfLess 8 = .ok (.aload_n 0, 1) := by decide +kernel
theorem dX2_keepIfLess_9 : decode cX2_keepIfLess 9 = .ok (.iload_n 1, 1) := by decide +kernel
theorem dX2_keepIfLess_10 : decode cX2_keepIfLess 10 = .ok (.putfield 33, 3) := by decide +kernel
theorem dX2_keepIfLess_13 : decode cX2_keepIfLess 13 = .ok (.aload_n 0, 1) := by decide +kernel
theorem dX2_keepIfLess_14 : decode cX2_keepIfLess 14 = .ok (.getfield 15, 3) := by decide +kernel
theorem dX2_keepIfLess_17 : decode cX2_keepIfLess 17 = .ok (.iconst 0, 1) := by decide +kernel
theorem dX2_keepIfLess_18 : decode cX2_keepIfLess 18 = .ok (.aload_n 0, 1) := by decide +kernel
theorem dX2_keepIfLess_19 : decode cX2_keepIfLess 19 = .ok (.getfield 9, 3) := by decide +kernel
theorem dX2_keepIfLess_22 : decode cX2_keepIfLess 22 = .ok (.iconst 0, 1) := by decide +kernel
theorem dX2_keepIfLess_23 : decode cX2_keepIfLess 23 = .ok (.aload_n 0, 1) := by decide +kernel
theorem dX2_keepIfLess_24 : decode cX2_keepIfLess 24 = .ok (.getfield 24, 3) := by decide +kernel
theorem dX2_keepIfLess_27 : decode cX2_keepIfLess 27 = .ok (.getfield 46, 3) := by decide +kernel
theorem dX2_keepIfLess_30 : decode cX2_keepIfLess 30 = .ok (.invokestatic 82, 3) := by decide +kernel
theorem dX2_keepIfLess_33 : decode cX2_keepIfLess 33 = .ok (.return_, 1) := by decide +kernel
theorem dX2_notLess_0 : decode cX2_notLess 0 = .ok (.iload_n 3, 1) := by decide +kernel
theorem dX2_notLess_1 : decode cX2_notLess 1 = .ok (.istore 4, 2) := by decide +kernel
theorem dX2_notLess_3 : decode cX2_notLess 3 = .ok (.iconst 0, 1) := by decide +kernel
theorem dX2_notLess_4 : decode cX2_notLess 4 = .ok (.istore 5, 2) := by decide +kernel
theorem dX2_notLess_6 : decode cX2_notLess 6 = .ok (.iload 5, 2) := by decide +kernel
theorem dX2_notLess_8 : decode cX2_notLess 8 = .ok (.aload_n 0, 1) := by decide +kernel
theorem dX2_notLess_9 : decode cX2_notLess 9 = .ok (.getfield 24, 3) := by decide +kernel
theorem dX2_notLess_12 : decode cX2_notLess 12 = .ok (.getfield 46, 3) := by decide +kernel
theorem dX2_notLess_15 : decode cX2_notLess 15 = .ok (.if_icmp .ge 45, 3) := by decide +kernel
theorem dX2_notLess_18 : decode cX2_notLess 18 = .ok (.iload_n 1, 1) := by decide +kernel
theorem dX2_notLess_19 : decode cX2_notLess 19 = .ok (.iload 5, 2) := by decide +kernel
theorem dX2_notLess_21 : decode cX2_notLess 21 = .ok (.invokestatic 88, 3) := by decide +kernel
theorem dX2_notLess_24 : decode cX2_notLess 24 = .ok (.ifCond .ne 30, 3) := by decide +kernel
theorem dX2_notLess_27 : decode cX2_notLess 27 = .ok (.aload_n 0, 1) := by decide +kernel
theorem dX2_notLess_28 : decode cX2_notLess 28 = .ok (.getfield 24, 3) := by decide +kernel
theorem dX2_notLess_31 : decode cX2_notLess 31 = .ok (.aload_n 0, 1) := by decide +kernel
theorem dX2_notLess_32 : decode cX2_notLess 32 = .ok (.getfield 28, 3) := by decide +kernel
theorem dX2_notLess_35 : decode cX2_notLess 35 = .ok (.iload 4, 2) := by decide +kernel
theorem dX2_notLess_37 : decode cX2_notLess 37 = .ok (.iload 5, 2) := by decide +kernel
theorem dX2_notLess_39 : decode cX2_notLess 39 = .ok (.aload_n 0, 1) := by decide +kernel
theorem dX2_notLess_40 : decode cX2_notLess 40 = .ok (.getfield 24, 3) := by decide +kernel
theorem dX2_notLess_43 : decode cX2_notLess 43 = .ok (.iload_n 2, 1) := by decide +kernel
theorem dX2_notLess_44 : decode cX2_notLess 44 = .ok (.iload 5, 2) := by decide +kernel
theorem dX2_notLess_46 : decode cX2_notLess 46 = .ok (.invokevirtual 63, 3) := by decide +kernel
theorem dX2_notLess_49 : decode cX2_notLess 49 = .ok (.invokevirtual 66, 3) := by decide +kernel
theorem dX2_notLess_52 : decode cX2_notLess 52 = .ok (.istore 4, 2) := by decide +kernel
theorem dX2_notLess_54 : decode cX2_notLess 54 = .ok (.iinc 5 1, 3) := by decide +kernel
theorem dX2_notLess_57 : decode cX2_notLess 57 = .ok (.goto (-51), 3) := by decide +kernel
theorem dX2_notLess_60 : decode cX2_notLess 60 = .ok (.iload 4, 2) := by decide +kernel
theorem dX2_notLess_62 : decode cX2_notLess 62 = .ok (.ireturn, 1) := by decide +kernel
theorem dX2_triedAsGood_0 : decode cX2_triedAsGood 0 = .ok (.iload_n 1, 1) := by decide +kernel
theorem dX2_triedAsGood_1 : decode cX2_triedAsGood 1 = .ok (.iconst 3, 1) := by decide +kernel
theorem dX2_triedAsGood_2 : decode cX2_triedAsGood 2 = .ok (.imul, 1) := by decide +kernel
theorem dX2_triedAsGood_3 : decode cX2_triedAsGood 3 = .ok (.iload_n 2, 1) := by decide +kernel
theorem dX2_triedAsGood_4 : decode cX2_triedAsGood 4 = .ok (.iadd, 1) := by decide +kernel
theorem dX2_triedAsGood_5 : decode cX2_triedAsGood 5 = .ok (.istore 5, 2) := by decide +kernel
theorem dX2_triedAsGood_7 : decode cX2_triedAsGood 7 = .ok (.aload_n 0, 1) := by decide +kernel
theorem dX2_triedAsGood_8 : decode cX2_triedAsGood 8 = .ok (.getfield 18, 3) := by decide +kernel
theorem dX2_triedAsGood_11 : decode cX2_triedAsGood 11 = .ok (.iload 5, 2) := by decide +kernel
theorem dX2_triedAsGood_13 : decode cX2_triedAsGood 13 = .ok (.iaload, 1) := by decide +kernel
theorem dX2_triedAsGood_14 : decode cX2_triedAsGood 14 = .ok (.iload_n 3, 1) := by decide +kernel
theorem dX2_triedAsGood_15 : decode cX2_triedAsGood 15 = .ok (.if_icmp .gt 17, 3) := by decide +kernel
theorem dX2_triedAsGood_18 : decode cX2_triedAsGood 18 = .ok (.aload_n 0, 1) := by decide +kernel
theorem dX2_triedAsGood_19 : decode cX2_triedAsGood 19 = .ok (.getfield 21, 3) := by decide +kernel
theorem dX2_triedAsGood_22 : decode cX2_triedAsGood 22 = .ok (.iload 5, 2) := by decide +kernel
theorem dX2_triedAsGood_24 : decode cX2_triedAsGood 24 = .ok (.iaload, 1) := by decide +kernel
theorem dX2_triedAsGood_25 : decode cX2_triedAsGood 25 = .ok (.iload 4, 2) := by decide +kernel
theorem dX2_triedAsGood_27 : decode cX2_triedAsGood 27 = .ok (.if_icmp .gt 5, 3) := by decide +kernel
theorem dX2_triedAsGood_30 : decode cX2_triedAsGood 30 = .ok (.iconst 1, 1) := by decide +kernel
theorem dX2_triedAsGood_31 : decode cX2_triedAsGood 31 = .ok (.ireturn, 1) := by decide +kernel
theorem dX2_triedAsGood_32 : decode cX2_triedAsGood 32 = .ok (.aload_n 0, 1) := by decide +kernel
theorem dX2_triedAsGood_33 : decode cX2_triedAsGood 33 = .ok (.getfield 18, 3) := by decide +kernel
theorem dX2_triedAsGood_36 : decode cX2_triedAsGood 36 = .ok (.iload 5, 2) := by decide +kernel
theorem dX2_triedAsGood_38 : decode cX2_triedAsGood 38 = .ok (.iload_n 3, 1) := by decide +kernel
theorem dX2_triedAsGood_39 : decode cX2_triedAsGood 39 = .ok (.iastore, 1) := by decide +kernel
theorem dX2_triedAsGood_40 : decode cX2_triedAsGood 40 = .ok (.aload_n 0, 1) := by decide +kernel
theorem dX2_triedAsGood_41 : decode cX2_triedAsGood 41 = .ok (.getfield 21, 3) := by decide +kernel
theorem dX2_triedAsGood_44 : decode cX2_triedAsGood 44 = .ok (.iload 5, 2) := by decide +kernel
theorem dX2_triedAsGood_46 : decode cX2_triedAsGood 46 = .ok (.iload 4, 2) := by decide +kernel
theorem dX2_triedAsGood_48 : decode cX2_triedAsGood 48 = .ok (.iastore, 1) := by decide +kernel
theorem dX2_triedAsGood_49 : decode cX2_triedAsGood 49 = .ok (.iconst 0, 1) := by decide +kernel
theorem dX2_triedAsGood_50 : decode cX2_triedAsGood 50 = .ok (.ireturn, 1) := by decide +kernel
theorem dX3_init_0 : decode cX3_init 0 = .ok (.aload_n 0, 1) := by decide +kernel
theorem dX3_init_1 : decode cX3_init 1 = .ok (.invokespecial 3, 3) := by decide +kernel
theorem dX3_init_4 : decode cX3_init 4 = .ok (.aload_n 0, 1) := by decide +kernel
theorem dX3_init_5 : decode cX3_init 5 = .ok (.bipush 8, 2) := by decide +kernel
theorem dX3_init_7 : decode cX3_init 7 = .ok (.newarray .int, 2) := by decide +kernel
theorem dX3_init_9 : decode cX3_init 9 = .ok (.putfield 9, 3) := by decide +kernel
theorem dX3_init_12 : decode cX3_init 12 = .ok (.aload_n 0, 1) := by decide +kernel
theorem dX3_init_13 : decode cX3_init 13 = .ok (.aload_n 1, 1) := by decide +kernel
theorem dX3_init_14 : decode cX3_init 14 = .ok (.putfield 15, 3) := by decide +kernel
theorem dX3_init_17 : decode cX3_init 17 = .ok (.return_, 1) := by decide +kernel
theorem dX3_greatestLate_0 : decode cX3_greatestLate 0 = .ok (.aload_n 0, 1) := by decide +kernel
theorem dX3_greatestLate_1 : decode cX3_greatestLate 1 = .ok (.invokevirtual 19, 3) := by decide +kernel
theorem dX3_greatestLate_4 : decode cX3_greatestLate 4 = .ok (.iconst 0, 1) := by decide +kernel
theorem dX3_greatestLate_5 : decode cX3_greatestLate 5 = .ok (.istore_n 1, 1) := by decide +kernel
theorem dX3_greatestLate_6 : decode cX3_greatestLate 6 = .ok (.aload_n 0, 1) := by decide +kernel
theorem dX3_greatestLate_7 : decode cX3_greatestLate 7 = .ok (.getfield 15, 3) := by decide +kernel
theorem dX3_greatestLate_10 : decode cX3_greatestLate 10 = .ok (.getfield 22, 3) := by decide +kernel
theorem dX3_greatestLate_13 : decode cX3_greatestLate 13 = .ok (.istore_n 2, 1) := by decide +kernel
theorem dX3_greatestLate_14 : decode cX3_greatestLate 14 = .ok (.iconst 0, 1) := by decide +kernel
theorem dX3_greatestLate_15 : decode cX3_greatestLate 15 = .ok (.istore_n 3, 1) := by decide +kernel
theorem dX3_greatestLate_16 : decode cX3_greatestLate 16 = .ok (.iload_n 3, 1) := by decide +kernel
theorem dX3_greatestLate_17 : decode cX3_greatestLate 17 = .ok (.sipush 999, 3) := by decide +kernel
theorem dX3_greatestLate_20 : decode cX3_greatestLate 20 = .ok (.if_icmp .gt 56, 3) := by decide +kernel
theorem dX3_greatestLate_23 : decode cX3_greatestLate 23 = .ok (.iload_n 2, 1) := by decide +kernel
theorem dX3_greatestLate_24 : decode cX3_greatestLate 24 = .ok (.ifCond .le 52, 3) := by decide +kernel
theorem dX3_greatestLate_27 : decode cX3_greatestLate 27 = .ok (.aload_n 0, 1) := by decide +kernel
theorem dX3_greatestLate_28 : decode cX3_greatestLate 28 = .ok (.iload_n 3, 1) := by decide +kernel
theorem dX3_greatestLate_29 : decode cX3_greatestLate 29 = .ok (.invokevirtual 28, 3) := by decide +kernel
theorem dX3_greatestLate_32 : decode cX3_greatestLate 32 = .ok (.istore 4, 2) := by decide +kernel
theorem dX3_greatestLate_34 : decode cX3_greatestLate 34 = .ok (.iload 4, 2) := by decide +kernel
theorem dX3_greatestLate_36 : decode cX3_greatestLate 36 = .ok (.iconst (-1), 1) := by decide +kernel
theorem dX3_greatestLate_37 : decode cX3_greatestLate 37 = .ok (.if_icmp .eq 33, 3) := by decide +kernel
theorem dX3_greatestLate_40 : decode cX3_greatestLate 40 = .ok (.aload_n 0, 1) := by decide +kernel
theorem dX3_greatestLate_41 : decode cX3_greatestLate 41 = .ok (.getfield 9, 3) := by decide +kernel
theorem dX3_greatestLate_44 : decode cX3_greatestLate 44 = .ok (.iload 4, 2) := by decide +kernel
theorem dX3_greatestLate_46 : decode cX3_greatestLate 46 = .ok (.iaload, 1) := by decide +kernel
theorem dX3_greatestLate_47 : decode cX3_greatestLate 47 = .ok (.ifCond .ne 23, 3) := by decide +kernel
theorem dX3_greatestLate_50 : decode cX3_greatestLate 50 = .ok (.iload_n 1, 1) := by decide +kernel
theorem dX3_greatestLate_51 : decode cX3_greatestLate 51 = .ok (.aload_n 0, 1) := by decide +kernel
theorem dX3_greatestLate_52 : decode cX3_greatestLate 52 = .ok (.getfield 15, 3) := by decide +kernel
theorem dX3_greatestLate_55 : decode cX3_greatestLate 55 = .ok (.iload 4, 2) := by decide +kernel
theorem dX3_greatestLate_57 : decode cX3_greatestLate 57 = .ok (.iload_n 3, 1) := by decide +kernel
theorem dX3_greatestLate_58 : decode cX3_greatestLate 58 = .ok (.iconst 1, 1) := by decide +kernel
theorem dX3_greatestLate_59 : decode cX3_greatestLate 59 = .ok (.iadd, 1) := by decide +kernel
theorem dX3_greatestLate_60 : decode cX3_greatestLate 60 = .ok (.invokevirtual 32, 3) := by decide +kernel
theorem dX3_greatestLate_63 : decode cX3_greatestLate 63 = .ok (.invokestatic 36, 3) := by decide +kernel
theorem dX3_greatestLate_66 : decode cX3_greatestLate 66 = .ok (.istore_n 1, 1) := by decide +kernel
theorem dX3_greatestLate_67 : decode cX3_greatestLate 67 = .ok (.iinc 2 (-1), 3) := by decide +kernel
theorem dX3_greatestLate_70 : decode cX3_greatestLate 70 = .ok (.iinc 3 1, 3) := by decide +kernel
theorem dX3_greatestLate_73 : decode cX3_greatestLate 73 = .ok (.goto (-57), 3) := by decide +kernel
theorem dX3_greatestLate_76 : decode cX3_greatestLate 76 = .ok (.iload_n 1, 1) := by decide +kernel
theorem dX3_greatestLate_77 : decode cX3_greatestLate 77 = .ok (.ireturn, 1) := by decide +kernel
theorem dX3_workIn_0 : decode cX3_workIn 0 = .ok (.aload_n 0, 1) := by decide +kernel
theorem dX3_workIn_1 : decode cX3_workIn 1 = .ok (.invokevirtual 19, 3) := by decide +kernel
theorem dX3_workIn_4 : decode cX3_workIn 4 = .ok (.iconst (-1), 1) := by decide +kernel
theorem dX3_workIn_5 : decode cX3_workIn 5 = .ok (.istore_n 2, 1) := by decide +kernel
theorem dX3_workIn_6 : decode cX3_workIn 6 = .ok (.iconst 0, 1) := by decide +kernel
theorem dX3_workIn_7 : decode cX3_workIn 7 = .ok (.istore_n 3, 1) := by decide +kernel
theorem dX3_workIn_8 : decode cX3_workIn 8 = .ok (.iload_n 3, 1) := by decide +kernel
theorem dX3_workIn_9 : decode cX3_workIn 9 = .ok (.iload_n 1, 1) := by decide +kernel
theorem dX3_workIn_10 : decode cX3_workIn 10 = .ok (.if_icmp .gt 15, 3) := by decide +kernel
theorem dX3_workIn_13 : decode cX3_workIn 13 = .ok (.aload_n 0, 1) := by decide +kernel
theorem dX3_workIn_14 : decode cX3_workIn 14 = .ok (.iload_n 3, 1) := by decide +kernel
theorem dX3_workIn_15 : decode cX3_workIn 15 = .ok (.invokevirtual 28, 3) := by decide +kernel
theorem dX3_workIn_18 : decode cX3_workIn 18 = .ok (.istore_n 2, 1) := by decide +kernel
theorem dX3_workIn_19 : decode cX3_workIn 19 = .ok (.iinc 3 1, 3) := by decide +kernel
theorem dX3_workIn_22 : decode cX3_workIn 22 = .ok (.goto (-14), 3) := by decide +kernel
theorem dX3_workIn_25 : decode cX3_workIn 25 = .ok (.iload_n 2, 1) := by decide +kernel
theorem dX3_workIn_26 : decode cX3_workIn 26 = .ok (.ireturn, 1) := by decide +kernel
theorem dX3_begin_0 : decode cX3_begin 0 = .ok (.aload_n 0, 1) := by decide +kernel
theorem dX3_begin_1 : decode cX3_begin 1 = .ok (.getfield 15, 3) := by decide +kernel
theorem dX3_begin_4 : decode cX3_begin 4 = .ok (.getfield 41, 3) := by decide +kernel
theorem dX3_begin_7 : decode cX3_begin 7 = .ok (.iconst 0, 1) := by decide +kernel
theorem dX3_begin_8 : decode cX3_begin 8 = .ok (.aaload, 1) := by decide +kernel
theorem dX3_begin_9 : decode cX3_begin 9 = .ok (.iconst 0, 1) := by decide +kernel
theorem dX3_begin_10 : decode cX3_begin 10 = .ok (.aload_n 0, 1) := by decide +kernel
theorem dX3_begin_11 : decode cX3_begin 11 = .ok (.getfield 9, 3) := by decide +kernel
theorem dX3_begin_14 : decode cX3_begin 14 = .ok (.iconst 0, 1) := by decide +kernel
theorem dX3_begin_15 : decode cX3_begin 15 = .ok (.aload_n 0, 1) := by decide +kernel
theorem dX3_begin_16 : decode cX3_begin 16 = .ok (.getfield 15, 3) := by decide +kernel
theorem dX3_begin_19 : decode cX3_begin 19 = .ok (.getfield 22, 3) := by decide +kernel
theorem dX3_begin_22 : decode cX3_begin 22 = .ok (.invokestatic 45, 3) := by decide +kernel
theorem dX3_begin_25 : decode cX3_begin 25 = .ok (.return_, 1) := by decide +kernel
theorem dX3_workOn_0 : decode cX3_workOn 0 = .ok (.aload_n 0, 1) := by decide +kernel
theorem dX3_workOn_1 : decode cX3_workOn 1 = .ok (.getfield 15, 3) := by decide +kernel
theorem dX3_workOn_4 : decode cX3_workOn 4 = .ok (.getfield 41, 3) := by decide +kernel
theorem dX3_workOn_7 : decode cX3_workOn 7 = .ok (.iconst 2, 1) := by decide +kernel
theorem dX3_workOn_8 : decode cX3_workOn 8 = .ok (.aaload, 1) := by decide +kernel
theorem dX3_workOn_9 : decode cX3_workOn 9 = .ok (.astore_n 2, 1) := by decide +kernel
theorem dX3_workOn_10 : decode cX3_workOn 10 = .ok (.iconst (-1), 1) := by decide +kernel
theorem dX3_workOn_11 : decode cX3_workOn 11 = .ok (.istore_n 3, 1) := by decide +kernel
theorem dX3_workOn_12 : decode cX3_workOn 12 = .ok (.iconst 0, 1) := by decide +kernel
theorem dX3_workOn_13 : decode cX3_workOn 13 = .ok (.istore 4, 2) := by decide +kernel
theorem dX3_workOn_15 : decode cX3_workOn 15 = .ok (.iload 4, 2) := by decide +kernel
theorem dX3_workOn_17 : decode cX3_workOn 17 = .ok (.aload_n 0, 1) := by decide +kernel
theorem dX3_workOn_18 : decode cX3_workOn 18 = .ok (.getfield 15, 3) := by decide +kernel
theorem dX3_workOn_21 : decode cX3_workOn 21 = .ok (.getfield 22, 3) := by decide +kernel
theorem dX3_workOn_24 : decode cX3_workOn 24 = .ok (.if_icmp .ge 65, 3) := by decide +kernel
theorem dX3_workOn_27 : decode cX3_workOn 27 = .ok (.aload_n 0, 1) := by decide +kernel
theorem dX3_workOn_28 : decode cX3_workOn 28 = .ok (.getfield 9, 3) := by decide +kernel
theorem dX3_workOn_31 : decode cX3_workOn 31 = .ok (.iload 4, 2) := by decide +kernel
theorem dX3_workOn_33 : decode cX3_workOn 33 = .ok (.iaload, 1) := by decide +kernel
theorem dX3_workOn_34 : decode cX3_workOn 34 = .ok (.ifCond .le 23, 3) := by decide +kernel
theorem dX3_workOn_37 : decode cX3_workOn 37 = .ok (.aload_n 0, 1) := by decide +kernel
theorem dX3_workOn_38 : decode cX3_workOn 38 = .ok (.getfield 15, 3) := by decide +kernel
theorem dX3_workOn_41 : decode cX3_workOn 41 = .ok (.getfield 41, 3) := by decide +kernel
theorem dX3_workOn_44 : decode cX3_workOn 44 = .ok (.iconst 1, 1) := by decide +kernel
theorem dX3_workOn_45 : decode cX3_workOn 45 = .ok (.aaload, 1) := by decide +kernel
theorem dX3_workOn_46 : decode cX3_workOn 46 = .ok (.iload 4, 2) := by decide +kernel
theorem dX3_workOn_48 : decode cX3_workOn 48 = .ok (.iaload, 1) := by decide +kernel
theorem dX3_workOn_49 : decode cX3_workOn 49 = .ok (.iload_n 1, 1) := by decide +kernel
theorem dX3_workOn_50 : decode cX3_workOn 50 = .ok (.if_icmp .gt 7, 3) := by decide +kernel
theorem dX3_workOn_53 : decode cX3_workOn 53 = .ok (.iconst 1, 1) := by decide +kernel
theorem dX3_workOn_54 : decode cX3_workOn 54 = .ok (.goto 4, 3) := by decide +kernel
theorem dX3_workOn_57 : decode cX3_workOn 57 = .ok (.iconst 0, 1) := by decide +kernel
theorem dX3_workOn_58 : decode cX3_workOn 58 = .ok (.istore 5, 2) := by decide +kernel
theorem dX3_workOn_60 : decode cX3_workOn 60 = .ok (.iload 5, 2) := by decide +kernel
theorem dX3_workOn_62 : decode cX3_workOn 62 = .ok (.ifCond .eq 21, 3) := by decide +kernel
theorem dX3_workOn_65 : decode cX3_workOn 65 = .ok (.iload_n 3, 1) := by decide +kernel
theorem dX3_workOn_66 : decode cX3_workOn 66 = .ok (.iconst (-1), 1) := by decide +kernel
theorem dX3_workOn_67 : decode cX3_workOn 67 = .ok (.if_icmp .eq 13, 3) := by decide +kernel
theorem dX3_workOn_70 : decode cX3_workOn 70 = .ok (.aload_n 2, 1) := by decide +kernel
theorem dX3_workOn_71 : decode cX3_workOn 71 = .ok (.iload 4, 2) := by decide +kernel
theorem dX3_workOn_73 : decode cX3_workOn 73 = .ok (.iaload, 1) := by decide +kernel
theorem dX3_workOn_74 : decode cX3_workOn 74 = .ok (.aload_n 2, 1) := by decide +kernel
theorem dX3_workOn_75 : decode cX3_workOn 75 = .ok (.iload_n 3, 1) := by decide +kernel
theorem dX3_workOn_76 : decode cX3_workOn 76 = .ok (.iaload, 1) := by decide +kernel
theorem dX3_workOn_77 : decode cX3_workOn 77 = .ok (.if_icmp .ge 6, 3) := by decide +kernel
theorem dX3_workOn_80 : decode cX3_workOn 80 = .ok (.iload 4, 2) := by decide +kernel
theorem dX3_workOn_82 : decode cX3_workOn 82 = .ok (.istore_n 3, 1) := by decide +kernel
theorem dX3_workOn_83 : decode cX3_workOn 83 = .ok (.iinc 4 1, 3) := by decide +kernel
theorem dX3_workOn_86 : decode cX3_workOn 86 = .ok (.goto (-71), 3) := by decide +kernel
theorem dX3_workOn_89 : decode cX3_workOn 89 = .ok (.iload_n 3, 1) := by decide +kernel
theorem dX3_workOn_90 : decode cX3_workOn 90 = .ok (.iconst (-1), 1) := by decide +kernel
theorem dX3_workOn_91 : decode cX3_workOn 91 = .ok (.if_icmp .eq 13, 3) := by decide +kernel
theorem dX3_workOn_94 : decode cX3_workOn 94 = .ok (.aload_n 0, 1) := by decide +kernel
theorem dX3_workOn_95 : decode cX3_workOn 95 = .ok (.getfield 9, 3) := by decide +kernel
theorem dX3_workOn_98 : decode cX3_workOn 98 = .ok (.iload_n 3, 1) := by decide +kernel
theorem dX3_workOn_99 : decode cX3_workOn 99 = .ok (.dup2, 1) := by decide +kernel
theorem dX3_workOn_100 : decode cX3_workOn 100 = .ok (.iaload, 1) := by decide +kernel
theorem dX3_workOn_101 : decode cX3_workOn 101 = .ok (.iconst 1, 1) := by decide +kernel
theorem dX3_workOn_102 : decode cX3_workOn 102 = .ok (.isub, 1) := by decide +kernel
theorem dX3_workOn_103 : decode cX3_workOn 103 = .ok (.iastore, 1) := by decide +kernel
theorem dX3_workOn_104 : decode cX3_workOn 104 = .ok (.iload_n 3, 1) := by decide +kernel
theorem dX3_workOn_105 : decode cX3_workOn 105 = .ok (.ireturn, 1) := by decide +kernel
theorem dX3_findWhy_0 : decode cX3_findWhy 0 = .ok (.ldc 51, 2) := by decide +kernel
theorem dX3_findWhy_2 : decode cX3_findWhy 2 = .ok (.istore_n 1, 1) := by decide +kernel
theorem dX3_findWhy_3 : decode cX3_findWhy 3 = .ok (.aload_n 0, 1) := by decide +kernel
theorem dX3_findWhy_4 : decode cX3_findWhy 4 = .ok (.iconst (-1), 1) := by decide +kernel
theorem dX3_findWhy_5 : decode cX3_findWhy 5 = .ok (.putfield 52, 3) := by decide +kernel
theorem dX3_findWhy_8 : decode cX3_findWhy 8 = .ok (.aload_n 0, 1) := by decide +kernel
theorem dX3_findWhy_9 : decode cX3_findWhy 9 = .ok (.iconst (-1), 1) := by decide +kernel
theorem dX3_findWhy_10 : decode cX3_findWhy 10 = .ok (.putfield 55, 3) := by decide +kernel
theorem dX3_findWhy_13 : decode cX3_findWhy 13 = .ok (.iconst 0, 1) := by decide +kernel
theorem dX3_findWhy_14 : decode cX3_findWhy 14 = .ok (.istore_n 2, 1) := by decide +kernel
theorem dX3_findWhy_15 : decode cX3_findWhy 15 = .ok (.iload_n 2, 1) := by decide +kernel
theorem dX3_findWhy_16 : decode cX3_findWhy 16 = .ok (.aload_n 0, 1) := by decide +kernel
theorem dX3_findWhy_17 : decode cX3_findWhy 17 = .ok (.getfield 15, 3) := by decide +kernel
theorem dX3_findWhy_20 : decode cX3_findWhy 20 = .ok (.getfield 22, 3) := by decide +kernel
theorem dX3_findWhy_23 : decode cX3_findWhy 23 = .ok (.if_icmp .ge 102, 3) := by decide +kernel
theorem dX3_findWhy_26 : decode cX3_findWhy 26 = .ok (.iconst 0, 1) := by decide +kernel
theorem dX3_findWhy_27 : decode cX3_findWhy 27 = .ok (.istore_n 3, 1) := by decide +kernel
theorem dX3_findWhy_28 : decode cX3_findWhy 28 = .ok (.iload_n 3, 1) := by decide +kernel
theorem dX3_findWhy_29 : decode cX3_findWhy 29 = .ok (.aload_n 0, 1) := by decide +kernel
theorem dX3_findWhy_30 : decode cX3_findWhy 30 = .ok (.getfield 15, 3) := by decide +kernel
theorem dX3_findWhy_33 : decode cX3_findWhy 33 = .ok (.getfield 22, 3) := by decide +kernel
theorem dX3_findWhy_36 : decode cX3_findWhy 36 = .ok (.if_icmp .ge 83, 3) := by decide +kernel
theorem dX3_findWhy_39 : decode cX3_findWhy 39 = .ok (.aload_n 0, 1) := by decide +kernel
theorem dX3_findWhy_40 : decode cX3_findWhy 40 = .ok (.getfield 15, 3) := by decide +kernel
theorem dX3_findWhy_43 : decode cX3_findWhy 43 = .ok (.getfield 41, 3) := by decide +kernel
theorem dX3_findWhy_46 : decode cX3_findWhy 46 = .ok (.iconst 1, 1) := by decide +kernel
theorem dX3_findWhy_47 : decode cX3_findWhy 47 = .ok (.aaload, 1) := by decide +kernel
theorem dX3_findWhy_48 : decode cX3_findWhy 48 = .ok (.iload_n 2, 1) := by decide +kernel
theorem dX3_findWhy_49 : decode cX3_findWhy 49 = .ok (.iaload, 1) := by decide +kernel
theorem dX3_findWhy_50 : decode cX3_findWhy 50 = .ok (.istore 4, 2) := by decide +kernel
theorem dX3_findWhy_52 : decode cX3_findWhy 52 = .ok (.aload_n 0, 1) := by decide +kernel
theorem dX3_findWhy_53 : decode cX3_findWhy 53 = .ok (.getfield 15, 3) := by decide +kernel
theorem dX3_findWhy_56 : decode cX3_findWhy 56 = .ok (.getfield 41, 3) := by decide +kernel
theorem dX3_findWhy_59 : decode cX3_findWhy 59 = .ok (.iconst 2, 1) := by decide +kernel
theorem dX3_findWhy_60 : decode cX3_findWhy 60 = .ok (.aaload, 1) := by decide +kernel
theorem dX3_findWhy_61 : decode cX3_findWhy 61 = .ok (.iload_n 3, 1) := by decide +kernel
theorem dX3_findWhy_62 : decode cX3_findWhy 62 = .ok (.iaload, 1) := by decide +kernel
theorem dX3_findWhy_63 : decode cX3_findWhy 63 = .ok (.istore 5, 2) := by decide +kernel
theorem dX3_findWhy_65 : decode cX3_findWhy 65 = .ok (.aload_n 0, 1) := by decide +kernel
theorem dX3_findWhy_66 : decode cX3_findWhy 66 = .ok (.iload 4, 2) := by decide +kernel
theorem dX3_findWhy_68 : decode cX3_findWhy 68 = .ok (.iload 5, 2) := by decide +kernel
theorem dX3_findWhy_70 : decode cX3_findWhy 70 = .ok (.invokevirtual 58, 3) := by decide +kernel
theorem dX3_findWhy_73 : decode cX3_findWhy 73 = .ok (.istore 6, 2) := by decide +kernel
theorem dX3_findWhy_75 : decode cX3_findWhy 75 = .ok (.iload 6, 2) := by decide +kernel
theorem dX3_findWhy_77 : decode cX3_findWhy 77 = .ok (.iload_n 1, 1) := by decide +kernel
theorem dX3_findWhy_78 : decode cX3_findWhy 78 = .ok (.if_icmp .gt 20, 3) := by decide +kernel
theorem dX3_findWhy_81 : decode cX3_findWhy 81 = .ok (.iload 6, 2) := by decide +kernel
theorem dX3_findWhy_83 : decode cX3_findWhy 83 = .ok (.iload_n 1, 1) := by decide +kernel
theorem dX3_findWhy_84 : decode cX3_findWhy 84 = .ok (.if_icmp .ne 29, 3) := by decide +kernel
theorem dX3_findWhy_87 : decode cX3_findWhy 87 = .ok (.aload_n 0, 1) := by decide +kernel
theorem dX3_findWhy_88 : decode cX3_findWhy 88 = .ok (.iload 4, 2) := by decide +kernel
theorem dX3_findWhy_90 : decode cX3_findWhy 90 = .ok (.iload 5, 2) := by decide +kernel
theorem dX3_findWhy_92 : decode cX3_findWhy 92 = .ok (.invokevirtual 61, 3) := by decide +kernel
theorem dX3_findWhy_95 : decode cX3_findWhy 95 = .ok (.ifCond .eq 18, 3) := by decide +kernel
theorem dX3_findWhy_98 : decode cX3_findWhy 98 = .ok (.iload 6, 2) := by decide +kernel
theorem dX3_findWhy_100 : decode cX3_findWhy 100 = .ok (.istore_n 1, 1) := by decide +kernel
theorem dX3_findWhy_101 : decode cX3_findWhy 101 = .ok (.aload_n 0, 1) := by decide +kernel
theorem dX3_findWhy_102 : decode cX3_findWhy 102 = .ok (.iload 4, 2) := by decide +kernel
theorem dX3_findWhy_104 : decode cX3_findWhy 104 = .ok (.putfield 52, 3) := by decide +kernel
theorem dX3_findWhy_107 : decode cX3_findWhy 107 = .ok (.aload_n 0, 1) := by decide +kernel
theorem dX3_findWhy_108 : decode cX3_findWhy 108 = .ok (.iload 5, 2) := by decide +kernel
theorem dX3_findWhy_110 : decode cX3_findWhy 110 = .ok (.putfield 55, 3) := by decide +kernel
theorem dX3_findWhy_113 : decode cX3_findWhy 113 = .ok (.iinc 3 1, 3) := by decide +kernel
theorem dX3_findWhy_116 : decode cX3_findWhy 116 = .ok (.goto (-88), 3) := by decide +kernel
theorem dX3_findWhy_119 : decode cX3_findWhy 119 = .ok (.iinc 2 1, 3) := by decide +kernel
theorem dX3_findWhy_122 : decode cX3_findWhy 122 = .ok (.goto (-107), 3) := by decide +kernel
theorem dX3_findWhy_125 : decode cX3_findWhy 125 = .ok (.return_, 1) := by decide +kernel
theorem dX3_isSooner_0 : decode cX3_isSooner 0 = .ok (.iload_n 1, 1) := by decide +kernel
theorem dX3_isSooner_1 : decode cX3_isSooner 1 = .ok (.aload_n 0, 1) := by decide +kernel
theorem dX3_isSooner_2 : decode cX3_isSooner 2 = .ok (.getfield 52, 3) := by decide +kernel
theorem dX3_isSooner_5 : decode cX3_isSooner 5 = .ok (.if_icmp .lt 19, 3) := by decide +kernel
theorem dX3_isSooner_8 : decode cX3_isSooner 8 = .ok (.iload_n 1, 1) := by decide +kernel
theorem dX3_isSooner_9 : decode cX3_isSooner 9 = .ok (.aload_n 0, 1) := by decide +kernel
theorem dX3_isSooner_10 : decode cX3_isSooner 10 = .ok (.getfield 52, 3) := by decide +kernel
theorem dX3_isSooner_13 : decode cX3_isSooner 13 = .ok (.if_icmp .ne 15, 3) := by decide +kernel
theorem dX3_isSooner_16 : decode cX3_isSooner 16 = .ok (.iload_n 2, 1) := by decide +kernel
theorem dX3_isSooner_17 : decode cX3_isSooner 17 = .ok (.aload_n 0, 1) := by decide +kernel
theorem dX3_isSooner_18 : decode cX3_isSooner 18 = .ok (.getfield 55, 3) := by decide +kernel
theorem dX3_isSooner_21 : decode cX3_isSooner 21 = .ok (.if_icmp .ge 7, 3) := by decide +kernel
theorem dX3_isSooner_24 : decode cX3_isSooner 24 = .ok (.iconst 1, 1) := by decide +kernel
theorem dX3_isSooner_25 : decode cX3_isSooner 25 = .ok (.goto 4, 3) := by decide +kernel
theorem dX3_isSooner_28 : decode cX3_isSooner 28 = .ok (.iconst 0, 1) := by decide +kernel
theorem dX3_isSooner_29 : decode cX3_isSooner 29 = .ok (.ireturn, 1) := by decide +kernel
theorem dX3_over_0 : decode cX3_over 0 = .ok (.iconst 0, 1) := by decide +kernel
theorem dX3_over_1 : decode cX3_over 1 = .ok (.istore_n 3, 1) := by decide +kernel
theorem dX3_over_2 : decode cX3_over 2 = .ok (.iconst 0, 1) := by decide +kernel
theorem dX3_over_3 : decode cX3_over 3 = .ok (.istore 4, 2) := by decide +kernel
theorem dX3_over_5 : decode cX3_over 5 = .ok (.iload 4, 2) := by decide +kernel
theorem dX3_over_7 : decode cX3_over 7 = .ok (.aload_n 0, 1) := by decide +kernel
theorem dX3_over_8 : decode cX3_over 8 = .ok (.getfield 15, 3) := by decide +kernel
theorem dX3_over_11 : decode cX3_over 11 = .ok (.getfield 22, 3) := by decide +kernel
theorem dX3_over_14 : decode cX3_over 14 = .ok (.if_icmp .ge 56, 3) := by decide +kernel
theorem dX3_over_17 : decode cX3_over 17 = .ok (.aload_n 0, 1) := by decide +kernel
theorem dX3_over_18 : decode cX3_over 18 = .ok (.getfield 15, 3) := by decide +kernel
theorem dX3_over_21 : decode cX3_over 21 = .ok (.getfield 41, 3) := by decide +kernel
theorem dX3_over_24 : decode cX3_over 24 = .ok (.iconst 1, 1) := by decide +kernel
theorem dX3_over_25 : decode cX3_over 25 = .ok (.aaload, 1) := by decide +kernel
theorem dX3_over_26 : decode cX3_over 26 = .ok (.iload 4, 2) := by decide +kernel
theorem dX3_over_28 : decode cX3_over 28 = .ok (.iaload, 1) := by decide +kernel
theorem dX3_over_29 : decode cX3_over 29 = .ok (.iload_n 1, 1) := by decide +kernel
theorem dX3_over_30 : decode cX3_over 30 = .ok (.if_icmp .lt 34, 3) := by decide +kernel
theorem dX3_over_33 : decode cX3_over 33 = .ok (.aload_n 0, 1) := by decide +kernel
theorem dX3_over_34 : decode cX3_over 34 = .ok (.getfield 15, 3) := by decide +kernel
theorem dX3_over_37 : decode cX3_over 37 = .ok (.getfield 41, 3) := by decide +kernel
theorem dX3_over_40 : decode cX3_over 40 = .ok (.iconst 2, 1) := by decide +kernel
theorem dX3_over_41 : decode cX3_over 41 = .ok (.aaload, 1) := by decide +kernel
theorem dX3_over_42 : decode cX3_over 42 = .ok (.iload 4, 2) := by decide +kernel
theorem dX3_over_44 : decode cX3_over 44 = .ok (.iaload, 1) := by decide +kernel
theorem dX3_over_45 : decode cX3_over 45 = .ok (.iload_n 2, 1) := by decide +kernel
theorem dX3_over_46 : decode cX3_over 46 = .ok (.if_icmp .gt 18, 3) := by decide +kernel
theorem dX3_over_49 : decode cX3_over 49 = .ok (.iload_n 3, 1) := by decide +kernel
theorem dX3_over_50 : decode cX3_over 50 = .ok (.aload_n 0, 1) := by decide +kernel
theorem dX3_over_51 : decode cX3_over 51 = .ok (.getfield 15, 3) := by decide +kernel
theorem dX3_over_54 : decode cX3_over 54 = .ok (.getfield 41, 3) := by decide +kernel
theorem dX3_over_57 : decode cX3_over 57 = .ok (.iconst 0, 1) := by decide +kernel
theorem dX3_over_58 : decode cX3_over 58 = .ok (.aaload, 1) := by decide +kernel
theorem dX3_over_59 : decode cX3_over 59 = .ok (.iload 4, 2) := by decide +kernel
theorem dX3_over_61 : decode cX3_over 61 = .ok (.iaload, 1) := by decide +kernel
theorem dX3_over_62 : decode cX3_over 62 = .ok (.iadd, 1) := by decide +kernel
theorem dX3_over_63 : decode cX3_over 63 = .ok (.istore_n 3, 1) := by decide +kernel
theorem dX3_over_64 : decode cX3_over 64 = .ok (.iinc 4 1, 3) := by decide +kernel
theorem dX3_over_67 : decode cX3_over 67 = .ok (.goto (-62), 3) := by decide +kernel
theorem dX3_over_70 : decode cX3_over 70 = .ok (.iload_n 3, 1) := by decide +kernel
theorem dX3_over_71 : decode cX3_over 71 = .ok (.ifCond .ne 8, 3) := by decide +kernel
theorem dX3_over_74 : decode cX3_over 74 = .ok (.ldc 51, 2) := by decide +kernel
theorem dX3_over_76 : decode cX3_over 76 = .ok (.goto 8, 3) := by decide +kernel
theorem dX3_over_79 : decode cX3_over 79 = .ok (.iload_n 1, 1) := by decide +kernel
theorem dX3_over_80 : decode cX3_over 80 = .ok (.iload_n 3, 1) := by decide +kernel
theorem dX3_over_81 : decode cX3_over 81 = .ok (.iadd, 1) := by decide +kernel
theorem dX3_over_82 : decode cX3_over 82 = .ok (.iload_n 2, 1) := by decide +kernel
theorem dX3_over_83 : decode cX3_over 83 = .ok (.isub, 1) := by decide +kernel
theorem dX3_over_84 : decode cX3_over 84 = .ok (.ireturn, 1) := by decide +kernel
theorem dX4_init_0 : decode cX4_init 0 = .ok (.aload_n 0, 1) := by decide +kernel
theorem dX4_init_1 : decode cX4_init 1 = .ok (.invokespecial 3, 3) := by decide +kernel
theorem dX4_init_4 : decode cX4_init 4 = .ok (.aload_n 0, 1) := by decide +kernel
theorem dX4_init_5 : decode cX4_init 5 = .ok (.iconst 2, 1) := by decide +kernel
theorem dX4_init_6 : decode cX4_init 6 = .ok (.putfield 9, 3) := by decide +kernel
theorem dX4_init_9 : decode cX4_init 9 = .ok (.aload_n 0, 1) := by decide +kernel
theorem dX4_init_10 : decode cX4_init 10 = .ok (.iconst 4, 1) := by decide +kernel
theorem dX4_init_11 : decode cX4_init 11 = .ok (.newarray .int, 2) := by decide +kernel
theorem dX4_init_13 : decode cX4_init 13 = .ok (.dup, 1) := by decide +kernel
theorem dX4_init_14 : decode cX4_init 14 = .ok (.iconst 0, 1) := by decide +kernel
theorem dX4_init_15 : decode cX4_init 15 = .ok (.bipush 9, 2) := by decide +kernel
theorem dX4_init_17 : decode cX4_init 17 = .ok (.iastore, 1) := by decide +kernel
theorem dX4_init_18 : decode cX4_init 18 = .ok (.dup, 1) := by decide +kernel
theorem dX4_init_19 : decode cX4_init 19 = .ok (.iconst 1, 1) := by decide +kernel
theorem dX4_init_20 : decode cX4_init 20 = .ok (.bipush 9, 2) := by decide +kernel
theorem dX4_init_22 : decode cX4_init 22 = .ok (.iastore, 1) := by decide +kernel
theorem dX4_init_23 : decode cX4_init 23 = .ok (.dup, 1) := by decide +kernel
theorem dX4_init_24 : decode cX4_init 24 = .ok (.iconst 2, 1) := by decide +kernel
theorem dX4_init_25 : decode cX4_init 25 = .ok (.bipush 9, 2) := by decide +kernel
theorem dX4_init_27 : decode cX4_init 27 = .ok (.iastore, 1) := by decide +kernel
theorem dX4_init_28 : decode cX4_init 28 = .ok (.dup, 1) := by decide +kernel
theorem dX4_init_29 : decode cX4_init 29 = .ok (.iconst 3, 1) := by decide +kernel
theorem dX4_init_30 : decode cX4_init 30 = .ok (.bipush 9, 2) := by decide +kernel
theorem dX4_init_32 : decode cX4_init 32 = .ok (.iastore, 1) := by decide +kernel
theorem dX4_init_33 : decode cX4_init 33 = .ok (.putfield 15, 3) := by decide +kernel
theorem dX4_init_36 : decode cX4_init 36 = .ok (.aload_n 0, 1) := by decide +kernel
theorem dX4_init_37 : decode cX4_init 37 = .ok (.bipush 8, 2) := by decide +kernel
theorem dX4_init_39 : decode cX4_init 39 = .ok (.iconst 4, 1) := by decide +kernel
theorem dX4_init_40 : decode cX4_init 40 = .ok (.multianewarray 19 2, 4) := by decide +kernel
theorem dX4_init_44 : decode cX4_init 44 = .ok (.putfield 21, 3) := by decide +kernel
theorem dX4_init_47 : decode cX4_init 47 = .ok (.aload_n 0, 1) := by decide +kernel
theorem dX4_init_48 : decode cX4_init 48 = .ok (.bipush 8, 2) := by decide +kernel
theorem dX4_init_50 : decode cX4_init 50 = .ok (.iconst 4, 1) := by decide +kernel
theorem dX4_init_51 : decode cX4_init 51 = .ok (.multianewarray 19 2, 4) := by decide +kernel
theorem dX4_init_55 : decode cX4_init 55 = .ok (.putfield 24, 3) := by decide +kernel
theorem dX4_init_58 : decode cX4_init 58 = .ok (.aload_n 0, 1) := by decide +kernel
theorem dX4_init_59 : decode cX4_init 59 = .ok (.aload_n 1, 1) := by decide +kernel
theorem dX4_init_60 : decode cX4_init 60 = .ok (.putfield 27, 3) := by decide +kernel
theorem dX4_init_63 : decode cX4_init 63 = .ok (.return_, 1) := by decide +kernel
theorem dX4_lastEnd_0 : decode cX4_lastEnd 0 = .ok (.iconst 0, 1) := by decide +kernel
theorem dX4_lastEnd_1 : decode cX4_lastEnd 1 = .ok (.istore_n 2, 1) := by decide +kernel
theorem dX4_lastEnd_2 : decode cX4_lastEnd 2 = .ok (.iconst 0, 1) := by decide +kernel
theorem dX4_lastEnd_3 : decode cX4_lastEnd 3 = .ok (.istore_n 3, 1) := by decide +kernel
theorem dX4_lastEnd_4 : decode cX4_lastEnd 4 = .ok (.iload_n 3, 1) := by decide +kernel
theorem dX4_lastEnd_5 : decode cX4_lastEnd 5 = .ok (.aload_n 0, 1) := by decide +kernel
theorem dX4_lastEnd_6 : decode cX4_lastEnd 6 = .ok (.getfield 27, 3) := by decide +kernel
theorem dX4_lastEnd_9 : decode cX4_lastEnd 9 = .ok (.getfield 31, 3) := by decide +kernel
theorem dX4_lastEnd_12 : decode cX4_lastEnd 12 = .ok (.if_icmp .ge 18, 3) := by decide +kernel
theorem dX4_lastEnd_15 : decode cX4_lastEnd 15 = .ok (.aload_n 0, 1) := by decide +kernel
theorem dX4_lastEnd_16 : decode cX4_lastEnd 16 = .ok (.iload_n 3, 1) := by decide +kernel
theorem dX4_lastEnd_17 : decode cX4_lastEnd 17 = .ok (.aload_n 1, 1) := by decide +kernel
theorem dX4_lastEnd_18 : decode cX4_lastEnd 18 = .ok (.iload_n 3, 1) := by decide +kernel
theorem dX4_lastEnd_19 : decode cX4_lastEnd 19 = .ok (.iaload, 1) := by decide +kernel
theorem dX4_lastEnd_20 : decode cX4_lastEnd 20 = .ok (.invokevirtual 34, 3) := by decide +kernel
theorem dX4_lastEnd_23 : decode cX4_lastEnd 23 = .ok (.istore_n 2, 1) := by decide +kernel
theorem dX4_lastEnd_24 : decode cX4_lastEnd 24 = .ok (.iinc 3 1, 3) := by decide +kernel
theorem dX4_lastEnd_27 : decode cX4_lastEnd 27 = .ok (.goto (-23), 3) := by decide +kernel
theorem dX4_lastEnd_30 : decode cX4_lastEnd 30 = .ok (.iload_n 2, 1) := by decide +kernel
theorem dX4_lastEnd_31 : decode cX4_lastEnd 31 = .ok (.ireturn, 1) := by decide +kernel
theorem dX4_send_0 : decode cX4_send 0 = .ok (.iconst 0, 1) := by decide +kernel
theorem dX4_send_1 : decode cX4_send 1 = .ok (.istore_n 3, 1) := by decide +kernel
theorem dX4_send_2 : decode cX4_send 2 = .ok (.iconst 0, 1) := by decide +kernel
theorem dX4_send_3 : decode cX4_send 3 = .ok (.istore 4, 2) := by decide +kernel
theorem dX4_send_5 : decode cX4_send 5 = .ok (.iload 4, 2) := by decide +kernel
theorem dX4_send_7 : decode cX4_send 7 = .ok (.aload_n 0, 1) := by decide +kernel
theorem dX4_send_8 : decode cX4_send 8 = .ok (.getfield 9, 3) := by decide +kernel
theorem dX4_send_11 : decode cX4_send 11 = .ok (.if_icmp .ge 95, 3) := by decide +kernel
theorem dX4_send_14 : decode cX4_send 14 = .ok (.iload_n 1, 1) := by decide +kernel
theorem dX4_send_15 : decode cX4_send 15 = .ok (.ifCond .ne 7, 3) := by decide +kernel
theorem dX4_send_18 : decode cX4_send 18 = .ok (.iconst 0, 1) := by decide +kernel
theorem dX4_send_19 : decode cX4_send 19 = .ok (.goto 14, 3) := by decide +kernel
theorem dX4_send_22 : decode cX4_send 22 = .ok (.aload_n 0, 1) := by decide +kernel
theorem dX4_send_23 : decode cX4_send 23 = .ok (.getfield 24, 3) := by decide +kernel
theorem dX4_send_26 : decode cX4_send 26 = .ok (.iload_n 1, 1) := by decide +kernel
theorem dX4_send_27 : decode cX4_send 27 = .ok (.iconst 1, 1) := by decide +kernel
theorem dX4_send_28 : decode cX4_send 28 = .ok (.isub, 1) := by decide +kernel
theorem dX4_send_29 : decode cX4_send 29 = .ok (.aaload, 1) := by decide +kernel
theorem dX4_send_30 : decode cX4_send 30 = .ok (.iload 4, 2) := by decide +kernel
theorem dX4_send_32 : decode cX4_send 32 = .ok (.iaload, 1) := by decide +kernel
theorem dX4_send_33 : decode cX4_send 33 = .ok (.istore 5, 2) := by decide +kernel
theorem dX4_send_35 : decode cX4_send 35 = .ok (.aload_n 0, 1) := by decide +kernel
theorem dX4_send_36 : decode cX4_send 36 = .ok (.getfield 21, 3) := by decide +kernel
theorem dX4_send_39 : decode cX4_send 39 = .ok (.iload_n 1, 1) := by decide +kernel
theorem dX4_send_40 : decode cX4_send 40 = .ok (.aaload, 1) := by decide +kernel
theorem dX4_send_41 : decode cX4_send 41 = .ok (.iload 4, 2) := by decide +kernel
theorem dX4_send_43 : decode cX4_send 43 = .ok (.iload_n 3, 1) := by decide +kernel
theorem dX4_send_44 : decode cX4_send 44 = .ok (.iload 5, 2) := by decide +kernel
theorem dX4_send_46 : decode cX4_send 46 = .ok (.invokestatic 38, 3) := by decide +kernel
theorem dX4_send_49 : decode cX4_send 49 = .ok (.iastore, 1) := by decide +kernel
theorem dX4_send_50 : decode cX4_send 50 = .ok (.iload 4, 2) := by decide +kernel
theorem dX4_send_52 : decode cX4_send 52 = .ok (.ifCond .le 25, 3) := by decide +kernel
theorem dX4_send_55 : decode cX4_send 55 = .ok (.aload_n 0, 1) := by decide +kernel
theorem dX4_send_56 : decode cX4_send 56 = .ok (.getfield 24, 3) := by decide +kernel
theorem dX4_send_59 : decode cX4_send 59 = .ok (.iload_n 1, 1) := by decide +kernel
theorem dX4_send_60 : decode cX4_send 60 = .ok (.aaload, 1) := by decide +kernel
theorem dX4_send_61 : decode cX4_send 61 = .ok (.iload 4, 2) := by decide +kernel
theorem dX4_send_63 : decode cX4_send 63 = .ok (.iconst 1, 1) := by decide +kernel
theorem dX4_send_64 : decode cX4_send 64 = .ok (.isub, 1) := by decide +kernel
theorem dX4_send_65 : decode cX4_send 65 = .ok (.iload_n 3, 1) := by decide +kernel
theorem dX4_send_66 : decode cX4_send 66 = .ok (.aload_n 0, 1) := by decide +kernel
theorem dX4_send_67 : decode cX4_send 67 = .ok (.iload_n 1, 1) := by decide +kernel
theorem dX4_send_68 : decode cX4_send 68 = .ok (.iload 4, 2) := by decide +kernel
theorem dX4_send_70 : decode cX4_send 70 = .ok (.invokevirtual 43, 3) := by decide +kernel
theorem dX4_send_73 : decode cX4_send 73 = .ok (.invokestatic 38, 3) := by decide +kernel
theorem dX4_send_76 : decode cX4_send 76 = .ok (.iastore, 1) := by decide +kernel
theorem dX4_send_77 : decode cX4_send 77 = .ok (.aload_n 0, 1) := by decide +kernel
theorem dX4_send_78 : decode cX4_send 78 = .ok (.getfield 21, 3) := by decide +kernel
theorem dX4_send_81 : decode cX4_send 81 = .ok (.iload_n 1, 1) := by decide +kernel
theorem dX4_send_82 : decode cX4_send 82 = .ok (.aaload, 1) := by decide +kernel
theorem dX4_send_83 : decode cX4_send 83 = .ok (.iload 4, 2) := by decide +kernel
theorem dX4_send_85 : decode cX4_send 85 = .ok (.iaload, 1) := by decide +kernel
theorem dX4_send_86 : decode cX4_send 86 = .ok (.aload_n 0, 1) := by decide +kernel
theorem dX4_send_87 : decode cX4_send 87 = .ok (.getfield 27, 3) := by decide +kernel
theorem dX4_send_90 : decode cX4_send 90 = .ok (.getfield 46, 3) := by decide +kernel
theorem dX4_send_93 : decode cX4_send 93 = .ok (.iload_n 2, 1) := by decide +kernel
theorem dX4_send_94 : decode cX4_send 94 = .ok (.aaload, 1) := by decide +kernel
theorem dX4_send_95 : decode cX4_send 95 = .ok (.iload 4, 2) := by decide +kernel
theorem dX4_send_97 : decode cX4_send 97 = .ok (.iaload, 1) := by decide +kernel
theorem dX4_send_98 : decode cX4_send 98 = .ok (.iadd, 1) := by decide +kernel
theorem dX4_send_99 : decode cX4_send 99 = .ok (.istore_n 3, 1) := by decide +kernel
theorem dX4_send_100 : decode cX4_send 100 = .ok (.iinc 4 1, 3) := by decide +kernel
theorem dX4_send_103 : decode cX4_send 103 = .ok (.goto (-98), 3) := by decide +kernel
theorem dX4_send_106 : decode cX4_send 106 = .ok (.aload_n 0, 1) := by decide +kernel
theorem dX4_send_107 : decode cX4_send 107 = .ok (.getfield 24, 3) := by decide +kernel
theorem dX4_send_110 : decode cX4_send 110 = .ok (.iload_n 1, 1) := by decide +kernel
theorem dX4_send_111 : decode cX4_send 111 = .ok (.aaload, 1) := by decide +kernel
theorem dX4_send_112 : decode cX4_send 112 = .ok (.aload_n 0, 1) := by decide +kernel
theorem dX4_send_113 : decode cX4_send 113 = .ok (.getfield 9, 3) := by decide +kernel
theorem dX4_send_116 : decode cX4_send 116 = .ok (.iconst 1, 1) := by decide +kernel
theorem dX4_send_117 : decode cX4_send 117 = .ok (.isub, 1) := by decide +kernel
theorem dX4_send_118 : decode cX4_send 118 = .ok (.iload_n 3, 1) := by decide +kernel
theorem dX4_send_119 : decode cX4_send 119 = .ok (.iastore, 1) := by decide +kernel
theorem dX4_send_120 : decode cX4_send 120 = .ok (.iload_n 3, 1) := by decide +kernel
theorem dX4_send_121 : decode cX4_send 121 = .ok (.ireturn, 1) := by decide +kernel
theorem dX4_roomAhead_0 : decode cX4_roomAhead 0 = .ok (.iload_n 1, 1) := by decide +kernel
theorem dX4_roomAhead_1 : decode cX4_roomAhead 1 = .ok (.aload_n 0, 1) := by decide +kernel
theorem dX4_roomAhead_2 : decode cX4_roomAhead 2 = .ok (.getfield 15, 3) := by decide +kernel
theorem dX4_roomAhead_5 : decode cX4_roomAhead 5 = .ok (.iload_n 2, 1) := by decide +kernel
theorem dX4_roomAhead_6 : decode cX4_roomAhead 6 = .ok (.iaload, 1) := by decide +kernel
theorem dX4_roomAhead_7 : decode cX4_roomAhead 7 = .ok (.isub, 1) := by decide +kernel
theorem dX4_roomAhead_8 : decode cX4_roomAhead 8 = .ok (.istore_n 3, 1) := by decide +kernel
theorem dX4_roomAhead_9 : decode cX4_roomAhead 9 = .ok (.iload_n 3, 1) := by decide +kernel
theorem dX4_roomAhead_10 : decode cX4_roomAhead 10 = .ok (.ifCond .ge 7, 3) := by decide +kernel
theorem dX4_roomAhead_13 : decode cX4_roomAhead 13 = .ok (.iconst 0, 1) := by decide +kernel
theorem dX4_roomAhead_14 : decode cX4_roomAhead 14 = .ok (.goto 11, 3) := by decide +kernel
theorem dX4_roomAhead_17 : decode cX4_roomAhead 17 = .ok (.aload_n 0, 1) := by decide +kernel
theorem dX4_roomAhead_18 : decode cX4_roomAhead 18 = .ok (.getfield 21, 3) := by decide +kernel
theorem dX4_roomAhead_21 : decode cX4_roomAhead 21 = .ok (.iload_n 3, 1) := by decide +kernel
theorem dX4_roomAhead_22 : decode cX4_roomAhead 22 = .ok (.aaload, 1) := by decide +kernel
theorem dX4_roomAhead_23 : decode cX4_roomAhead 23 = .ok (.iload_n 2, 1) := by decide +kernel
theorem dX4_roomAhead_24 : decode cX4_roomAhead 24 = .ok (.iaload, 1) := by decide +kernel
theorem dX4_roomAhead_25 : decode cX4_roomAhead 25 = .ok (.ireturn, 1) := by decide +kernel
theorem dX4_timeBetween_0 : decode cX4_timeBetween 0 = .ok (.iconst 0, 1) := by decide +kernel
theorem dX4_timeBetween_1 : decode cX4_timeBetween 1 = .ok (.istore 4, 2) := by decide +kernel
theorem dX4_timeBetween_3 : decode cX4_timeBetween 3 = .ok (.iload_n 2, 1) := by decide +kernel
theorem dX4_timeBetween_4 : decode cX4_timeBetween 4 = .ok (.istore 5, 2) := by decide +kernel
theorem dX4_timeBetween_6 : decode cX4_timeBetween 6 = .ok (.iload 5, 2) := by decide +kernel
theorem dX4_timeBetween_8 : decode cX4_timeBetween 8 = .ok (.iload_n 3, 1) := by decide +kernel
theorem dX4_timeBetween_9 : decode cX4_timeBetween 9 = .ok (.if_icmp .ge 26, 3) := by decide +kernel
theorem dX4_timeBetween_12 : decode cX4_timeBetween 12 = .ok (.iload 4, 2) := by decide +kernel
theorem dX4_timeBetween_14 : decode cX4_timeBetween 14 = .ok (.aload_n 0, 1) := by decide +kernel
theorem dX4_timeBetween_15 : decode cX4_timeBetween 15 = .ok (.getfield 27, 3) := by decide +kernel
theorem dX4_timeBetween_18 : decode cX4_timeBetween 18 = .ok (.getfield 46, 3) := by decide +kernel
theorem dX4_timeBetween_21 : decode cX4_timeBetween 21 = .ok (.iload_n 1, 1) := by decide +kernel
theorem dX4_timeBetween_22 : decode cX4_timeBetween 22 = .ok (.aaload, 1) := by decide +kernel
theorem dX4_timeBetween_23 : decode cX4_timeBetween 23 = .ok (.iload 5, 2) := by decide +kernel
theorem dX4_timeBetween_25 : decode cX4_timeBetween 25 = .ok (.iaload, 1) := by decide +kernel
theorem dX4_timeBetween_26 : decode cX4_timeBetween 26 = .ok (.iadd, 1) := by decide +kernel
theorem dX4_timeBetween_27 : decode cX4_timeBetween 27 = .ok (.istore 4, 2) := by decide +kernel
theorem dX4_timeBetween_29 : decode cX4_timeBetween 29 = .ok (.iinc 5 1, 3) := by decide +kernel
theorem dX4_timeBetween_32 : decode cX4_timeBetween 32 = .ok (.goto (-26), 3) := by decide +kernel
theorem dX4_timeBetween_35 : decode cX4_timeBetween 35 = .ok (.iload 4, 2) := by decide +kernel
theorem dX4_timeBetween_37 : decode cX4_timeBetween 37 = .ok (.ireturn, 1) := by decide +kernel
theorem dX4_notSooner_0 : decode cX4_notSooner 0 = .ok (.iconst 0, 1) := by decide +kernel
theorem dX4_notSooner_1 : decode cX4_notSooner 1 = .ok (.istore_n 1, 1) := by decide +kernel
theorem dX4_notSooner_2 : decode cX4_notSooner 2 = .ok (.iconst 0, 1) := by decide +kernel
theorem dX4_notSooner_3 : decode cX4_notSooner 3 = .ok (.istore_n 2, 1) := by decide +kernel
theorem dX4_notSooner_4 : decode cX4_notSooner 4 = .ok (.iload_n 2, 1) := by decide +kernel
theorem dX4_notSooner_5 : decode cX4_notSooner 5 = .ok (.aload_n 0, 1) := by decide +kernel
theorem dX4_notSooner_6 : decode cX4_notSooner 6 = .ok (.getfield 9, 3) := by decide +kernel
theorem dX4_notSooner_9 : decode cX4_notSooner 9 = .ok (.if_icmp .ge 29, 3) := by decide +kernel
theorem dX4_notSooner_12 : decode cX4_notSooner 12 = .ok (.aload_n 0, 1) := by decide +kernel
theorem dX4_notSooner_13 : decode cX4_notSooner 13 = .ok (.getfield 27, 3) := by decide +kernel
theorem dX4_notSooner_16 : decode cX4_notSooner 16 = .ok (.getfield 31, 3) := by decide +kernel
theorem dX4_notSooner_19 : decode cX4_notSooner 19 = .ok (.ifCond .le 19, 3) := by decide +kernel
theorem dX4_notSooner_22 : decode cX4_notSooner 22 = .ok (.iload_n 1, 1) := by decide +kernel
theorem dX4_notSooner_23 : decode cX4_notSooner 23 = .ok (.aload_n 0, 1) := by decide +kernel
theorem dX4_notSooner_24 : decode cX4_notSooner 24 = .ok (.iload_n 2, 1) := by decide +kernel
theorem dX4_notSooner_25 : decode cX4_notSooner 25 = .ok (.invokevirtual 49, 3) := by decide +kernel
theorem dX4_notSooner_28 : decode cX4_notSooner 28 = .ok (.invokestatic 38, 3) := by decide +kernel
theorem dX4_notSooner_31 : decode cX4_notSooner 31 = .ok (.istore_n 1, 1) := by decide +kernel
theorem dX4_notSooner_32 : decode cX4_notSooner 32 = .ok (.iinc 2 1, 3) := by decide +kernel
theorem dX4_notSooner_35 : decode cX4_notSooner 35 = .ok (.goto (-31), 3) := by decide +kernel
theorem dX4_notSooner_38 : decode cX4_notSooner 38 = .ok (.iload_n 1, 1) := by decide +kernel
theorem dX4_notSooner_39 : decode cX4_notSooner 39 = .ok (.ireturn, 1) := by decide +kernel
theorem dX4_notSoonerBy_0 : decode cX4_notSoonerBy 0 = .ok (.iconst 0, 1) := by decide +kernel
theorem dX4_notSoonerBy_1 : decode cX4_notSoonerBy 1 = .ok (.istore_n 2, 1) := by decide +kernel
theorem dX4_notSoonerBy_2 : decode cX4_notSoonerBy 2 = .ok (.ldc 53, 2) := by decide +kernel
theorem dX4_notSoonerBy_4 : decode cX4_notSoonerBy 4 = .ok (.istore_n 3, 1) := by decide +kernel
theorem dX4_notSoonerBy_5 : decode cX4_notSoonerBy 5 = .ok (.ldc 53, 2) := by decide +kernel
theorem dX4_notSoonerBy_7 : decode cX4_notSoonerBy 7 = .ok (.istore 4, 2) := by decide +kernel
theorem dX4_notSoonerBy_9 : decode cX4_notSoonerBy 9 = .ok (.iconst 0, 1) := by decide +kernel
theorem dX4_notSoonerBy_10 : decode cX4_notSoonerBy 10 = .ok (.istore 5, 2) := by decide +kernel
theorem dX4_notSoonerBy_12 : decode cX4_notSoonerBy 12 = .ok (.iload 5, 2) := by decide +kernel
theorem dX4_notSoonerBy_14 : decode cX4_notSoonerBy 14 = .ok (.aload_n 0, 1) := by decide +kernel
theorem dX4_notSoonerBy_15 : decode cX4_notSoonerBy 15 = .ok (.getfield 27, 3) := by decide +kernel
theorem dX4_notSoonerBy_18 : decode cX4_notSoonerBy 18 = .ok (.getfield 31, 3) := by decide +kernel
theorem dX4_notSoonerBy_21 : decode cX4_notSoonerBy 21 = .ok (.if_icmp .ge 57, 3) := by decide +kernel
theorem dX4_notSoonerBy_24 : decode cX4_notSoonerBy 24 = .ok (.iload_n 2, 1) := by decide +kernel
theorem dX4_notSoonerBy_25 : decode cX4_notSoonerBy 25 = .ok (.aload_n 0, 1) := by decide +kernel
theorem dX4_notSoonerBy_26 : decode cX4_notSoonerBy 26 = .ok (.getfield 27, 3) := by decide +kernel
theorem dX4_notSoonerBy_29 : decode cX4_notSoonerBy 29 = .ok (.getfield 46, 3) := by decide +kernel
theorem dX4_notSoonerBy_32 : decode cX4_notSoonerBy 32 = .ok (.iload 5, 2) := by decide +kernel
theorem dX4_notSoonerBy_34 : decode cX4_notSoonerBy 34 = .ok (.aaload, 1) := by decide +kernel
theorem dX4_notSoonerBy_35 : decode cX4_notSoonerBy 35 = .ok (.iload_n 1, 1) := by decide +kernel
theorem dX4_notSoonerBy_36 : decode cX4_notSoonerBy 36 = .ok (.iaload, 1) := by decide +kernel
theorem dX4_notSoonerBy_37 : decode cX4_notSoonerBy 37 = .ok (.iadd, 1) := by decide +kernel
theorem dX4_notSoonerBy_38 : decode cX4_notSoonerBy 38 = .ok (.istore_n 2, 1) := by decide +kernel
theorem dX4_notSoonerBy_39 : decode cX4_notSoonerBy 39 = .ok (.iload_n 3, 1) := by decide +kernel
theorem dX4_notSoonerBy_40 : decode cX4_notSoonerBy 40 = .ok (.aload_n 0, 1) := by decide +kernel
theorem dX4_notSoonerBy_41 : decode cX4_notSoonerBy 41 = .ok (.iload 5, 2) := by decide +kernel
theorem dX4_notSoonerBy_43 : decode cX4_notSoonerBy 43 = .ok (.iconst 0, 1) := by decide +kernel
theorem dX4_notSoonerBy_44 : decode cX4_notSoonerBy 44 = .ok (.iload_n 1, 1) := by decide +kernel
theorem dX4_notSoonerBy_45 : decode cX4_notSoonerBy 45 = .ok (.invokevirtual 54, 3) := by decide +kernel
theorem dX4_notSoonerBy_48 : decode cX4_notSoonerBy 48 = .ok (.invokestatic 58, 3) := by decide +kernel
theorem dX4_notSoonerBy_51 : decode cX4_notSoonerBy 51 = .ok (.istore_n 3, 1) := by decide +kernel
theorem dX4_notSoonerBy_52 : decode cX4_notSoonerBy 52 = .ok (.iload 4, 2) := by decide +kernel
theorem dX4_notSoonerBy_54 : decode cX4_notSoonerBy 54 = .ok (.aload_n 0, 1) := by decide +kernel
theorem dX4_notSoonerBy_55 : decode cX4_notSoonerBy 55 = .ok (.iload 5, 2) := by decide +kernel
theorem dX4_notSoonerBy_57 : decode cX4_notSoonerBy 57 = .ok (.iload_n 1, 1) := by decide +kernel
theorem dX4_notSoonerBy_58 : decode cX4_notSoonerBy 58 = .ok (.iconst 1, 1) := by decide +kernel
theorem dX4_notSoonerBy_59 : decode cX4_notSoonerBy 59 = .ok (.iadd, 1) := by decide +kernel
theorem dX4_notSoonerBy_60 : decode cX4_notSoonerBy 60 = .ok (.aload_n 0, 1) := by decide +kernel
theorem dX4_notSoonerBy_61 : decode cX4_notSoonerBy 61 = .ok (.getfield 9, 3) := by decide +kernel
theorem dX4_notSoonerBy_64 : decode cX4_notSoonerBy 64 = .ok (.invokevirtual 54, 3) := by decide +kernel
theorem dX4_notSoonerBy_67 : decode cX4_notSoonerBy 67 = .ok (.invokestatic 58, 3) := by decide +kernel
theorem dX4_notSoonerBy_70 : decode cX4_notSoonerBy 70 = .ok (.istore 4, 2) := by decide +kernel
theorem dX4_notSoonerBy_72 : decode cX4_notSoonerBy 72 = .ok (.iinc 5 1, 3) := by decide +kernel
theorem dX4_notSoonerBy_75 : decode cX4_notSoonerBy 75 = .ok (.goto (-63), 3) := by decide +kernel
theorem dX4_notSoonerBy_78 : decode cX4_notSoonerBy 78 = .ok (.iload_n 2, 1) := by decide +kernel
theorem dX4_notSoonerBy_79 : decode cX4_notSoonerBy 79 = .ok (.iload_n 3, 1) := by decide +kernel
theorem dX4_notSoonerBy_80 : decode cX4_notSoonerBy 80 = .ok (.iadd, 1) := by decide +kernel
theorem dX4_notSoonerBy_81 : decode cX4_notSoonerBy 81 = .ok (.iload 4, 2) := by decide +kernel
theorem dX4_notSoonerBy_83 : decode cX4_notSoonerBy 83 = .ok (.iadd, 1) := by decide +kernel
theorem dX4_notSoonerBy_84 : decode cX4_notSoonerBy 84 = .ok (.ireturn, 1) := by decide +kernel
theorem dX4_foldInto_0 : decode cX4_foldInto 0 = .ok (.lload_n 1, 1) := by decide +kernel
theorem dX4_foldInto_1 : decode cX4_foldInto 1 = .ok (.aload_n 0, 1) := by decide +kernel
theorem dX4_foldInto_2 : decode cX4_foldInto 2 = .ok (.getfield 9, 3) := by decide +kernel
theorem dX4_foldInto_5 : decode cX4_foldInto 5 = .ok (.invokestatic 61, 3) := by decide +kernel
theorem dX4_foldInto_8 : decode cX4_foldInto 8 = .ok (.lstore_n 1, 1) := by decide +kernel
theorem dX4_foldInto_9 : decode cX4_foldInto 9 = .ok (.iconst 1, 1) := by decide +kernel
theorem dX4_foldInto_10 : decode cX4_foldInto 10 = .ok (.istore_n 3, 1) := by decide +kernel
theorem dX4_foldInto_11 : decode cX4_foldInto 11 = .ok (.iload_n 3, 1) := by decide +kernel
theorem dX4_foldInto_12 : decode cX4_foldInto 12 = .ok (.iconst 4, 1) := by decide +kernel
theorem dX4_foldInto_13 : decode cX4_foldInto 13 = .ok (.if_icmp .ge 20, 3) := by decide +kernel
theorem dX4_foldInto_16 : decode cX4_foldInto 16 = .ok (.lload_n 1, 1) := by decide +kernel
theorem dX4_foldInto_17 : decode cX4_foldInto 17 = .ok (.aload_n 0, 1) := by decide +kernel
theorem dX4_foldInto_18 : decode cX4_foldInto 18 = .ok (.getfield 15, 3) := by decide +kernel
theorem dX4_foldInto_21 : decode cX4_foldInto 21 = .ok (.iload_n 3, 1) := by decide +kernel
theorem dX4_foldInto_22 : decode cX4_foldInto 22 = .ok (.iaload, 1) := by decide +kernel
theorem dX4_foldInto_23 : decode cX4_foldInto 23 = .ok (.invokestatic 61, 3) := by decide +kernel
theorem dX4_foldInto_26 : decode cX4_foldInto 26 = .ok (.lstore_n 1, 1) := by decide +kernel
theorem dX4_foldInto_27 : decode cX4_foldInto 27 = .ok (.iinc 3 1, 3) := by decide +kernel
theorem dX4_foldInto_30 : decode cX4_foldInto 30 = .ok (.goto (-19), 3) := by decide +kernel
theorem dX4_foldInto_33 : decode cX4_foldInto 33 = .ok (.lload_n 1, 1) := by decide +kernel
theorem dX4_foldInto_34 : decode cX4_foldInto 34 = .ok (.lreturn, 1) := by decide +kernel
theorem dX5_init_0 : decode cX5_init 0 = .ok (.aload_n 0, 1) := by decide +kernel
theorem dX5_init_1 : decode cX5_init 1 = .ok (.invokespecial 3, 3) := by decide +kernel
theorem dX5_init_4 : decode cX5_init 4 = .ok (.aload_n 0, 1) := by decide +kernel
theorem dX5_init_5 : decode cX5_init 5 = .ok (.bipush 8, 2) := by decide +kernel
theorem dX5_init_7 : decode cX5_init 7 = .ok (.newarray .int, 2) := by decide +kernel
theorem dX5_init_9 : decode cX5_init 9 = .ok (.putfield 9, 3) := by decide +kernel
theorem dX5_init_12 : decode cX5_init 12 = .ok (.aload_n 0, 1) := by decide +kernel
theorem dX5_init_13 : decode cX5_init 13 = .ok (.aload_n 1, 1) := by decide +kernel
theorem dX5_init_14 : decode cX5_init 14 = .ok (.putfield 15, 3) := by decide +kernel
theorem dX5_init_17 : decode cX5_init 17 = .ok (.return_, 1) := by decide +kernel
theorem dX5_putInOrder_0 : decode cX5_putInOrder 0 = .ok (.iconst 0, 1) := by decide +kernel
theorem dX5_putInOrder_1 : decode cX5_putInOrder 1 = .ok (.istore_n 1, 1) := by decide +kernel
theorem dX5_putInOrder_2 : decode cX5_putInOrder 2 = .ok (.iload_n 1, 1) := by decide +kernel
theorem dX5_putInOrder_3 : decode cX5_putInOrder 3 = .ok (.aload_n 0, 1) := by decide +kernel
theorem dX5_putInOrder_4 : decode cX5_putInOrder 4 = .ok (.getfield 15, 3) := by decide +kernel
theorem dX5_putInOrder_7 : decode cX5_putInOrder 7 = .ok (.getfield 19, 3) := by decide +kernel
theorem dX5_putInOrder_10 : decode cX5_putInOrder 10 = .ok (.if_icmp .ge 58, 3) := by decide +kernel
theorem dX5_putInOrder_13 : decode cX5_putInOrder 13 = .ok (.iload_n 1, 1) := by decide +kernel
theorem dX5_putInOrder_14 : decode cX5_putInOrder 14 = .ok (.istore_n 2, 1) := by decide +kernel
theorem dX5_putInOrder_15 : decode cX5_putInOrder 15 = .ok (.iload_n 2, 1) := by decide +kernel
theorem dX5_putInOrder_16 : decode cX5_putInOrder 16 = .ok (.ifCond .le 39, 3) := by decide +kernel
theorem dX5_putInOrder_19 : decode cX5_putInOrder 19 = .ok (.aload_n 0, 1) := by decide +kernel
theorem dX5_putInOrder_20 : decode cX5_putInOrder 20 = .ok (.iload_n 1, 1) := by decide +kernel
theorem dX5_putInOrder_21 : decode cX5_putInOrder 21 = .ok (.aload_n 0, 1) := by decide +kernel
theorem dX5_putInOrder_22 : decode cX5_putInOrder 22 = .ok (.getfield 9, 3) := by decide +kernel
theorem dX5_putInOrder_25 : decode cX5_putInOrder 25 = .ok (.iload_n 2, 1) := by decide +kernel
theorem dX5_putInOrder_26 : decode cX5_putInOrder 26 = .ok (.iconst 1, 1) := by decide +kernel
theorem dX5_putInOrder_27 : decode cX5_putInOrder 27 = .ok (.isub, 1) := by decide +kernel
theorem dX5_putInOrder_28 : decode cX5_putInOrder 28 = .ok (.iaload, 1) := by decide +kernel
theorem dX5_putInOrder_29 : decode cX5_putInOrder 29 = .ok (.invokevirtual 25, 3) := by decide +kernel
theorem dX5_putInOrder_32 : decode cX5_putInOrder 32 = .ok (.ifCond .eq 23, 3) := by decide +kernel
theorem dX5_putInOrder_35 : decode cX5_putInOrder 35 = .ok (.aload_n 0, 1) := by decide +kernel
theorem dX5_putInOrder_36 : decode cX5_putInOrder 36 = .ok (.getfield 9, 3) := by decide +kernel
theorem dX5_putInOrder_39 : decode cX5_putInOrder 39 = .ok (.iload_n 2, 1) := by decide +kernel
theorem dX5_putInOrder_40 : decode cX5_putInOrder 40 = .ok (.aload_n 0, 1) := by decide +kernel
theorem dX5_putInOrder_41 : decode cX5_putInOrder 41 = .ok (.getfield 9, 3) := by decide +kernel
theorem dX5_putInOrder_44 : decode cX5_putInOrder 44 = .ok (.iload_n 2, 1) := by decide +kernel
theorem dX5_putInOrder_45 : decode cX5_putInOrder 45 = .ok (.iconst 1, 1) := by decide +kernel
theorem dX5_putInOrder_46 : decode cX5_putInOrder 46 = .ok (.isub, 1) := by decide +kernel
theorem dX5_putInOrder_47 : decode cX5_putInOrder 47 = .ok (.iaload, 1) := by decide +kernel
theorem dX5_putInOrder_48 : decode cX5_putInOrder 48 = .ok (.iastore, 1) := by decide +kernel
theorem dX5_putInOrder_49 : decode cX5_putInOrder 49 = .ok (.iinc 2 (-1), 3) := by decide +kernel
theorem dX5_putInOrder_52 : decode cX5_putInOrder 52 = .ok (.goto (-37), 3) := by decide +kernel
theorem dX5_putInOrder_55 : decode cX5_putInOrder 55 = .ok (.aload_n 0, 1) := by decide +kernel
theorem dX5_putInOrder_56 : decode cX5_putInOrder 56 = .ok (.getfield 9, 3) := by decide +kernel
theorem dX5_putInOrder_59 : decode cX5_putInOrder 59 = .ok (.iload_n 2, 1) := by decide +kernel
theorem dX5_putInOrder_60 : decode cX5_putInOrder 60 = .ok (.iload_n 1, 1) := by decide +kernel
theorem dX5_putInOrder_61 : decode cX5_putInOrder 61 = .ok (.iastore, 1) := by decide +kernel
theorem dX5_putInOrder_62 : decode cX5_putInOrder 62 = .ok (.iinc 1 1, 3) := by decide +kernel
theorem dX5_putInOrder_65 : decode cX5_putInOrder 65 = .ok (.goto (-63), 3) := by decide +kernel
theorem dX5_putInOrder_68 : decode cX5_putInOrder 68 = .ok (.return_, 1) := by decide +kernel
theorem dX5_goesAhead_0 : decode cX5_goesAhead 0 = .ok (.aload_n 0, 1) := by decide +kernel
theorem dX5_goesAhead_1 : decode cX5_goesAhead 1 = .ok (.iload_n 1, 1) := by decide +kernel
theorem dX5_goesAhead_2 : decode cX5_goesAhead 2 = .ok (.invokevirtual 29, 3) := by decide +kernel
theorem dX5_goesAhead_5 : decode cX5_goesAhead 5 = .ok (.aload_n 0, 1) := by decide +kernel
theorem dX5_goesAhead_6 : decode cX5_goesAhead 6 = .ok (.iload_n 2, 1) := by decide +kernel
theorem dX5_goesAhead_7 : decode cX5_goesAhead 7 = .ok (.invokevirtual 29, 3) := by decide +kernel
theorem dX5_goesAhead_10 : decode cX5_goesAhead 10 = .ok (.if_icmp .eq 9, 3) := by decide +kernel
theorem dX5_goesAhead_13 : decode cX5_goesAhead 13 = .ok (.aload_n 0, 1) := by decide +kernel
theorem dX5_goesAhead_14 : decode cX5_goesAhead 14 = .ok (.iload_n 1, 1) := by decide +kernel
theorem dX5_goesAhead_15 : decode cX5_goesAhead 15 = .ok (.invokevirtual 29, 3) := by decide +kernel
theorem dX5_goesAhead_18 : decode cX5_goesAhead 18 = .ok (.ireturn, 1) := by decide +kernel
theorem dX5_goesAhead_19 : decode cX5_goesAhead 19 = .ok (.aload_n 0, 1) := by decide +kernel
theorem dX5_goesAhead_20 : decode cX5_goesAhead 20 = .ok (.iload_n 1, 1) := by decide +kernel
theorem dX5_goesAhead_21 : decode cX5_goesAhead 21 = .ok (.invokevirtual 29, 3) := by decide +kernel
theorem dX5_goesAhead_24 : decode cX5_goesAhead 24 = .ok (.ifCond .eq 36, 3) := by decide +kernel
theorem dX5_goesAhead_27 : decode cX5_goesAhead 27 = .ok (.aload_n 0, 1) := by decide +kernel
theorem dX5_goesAhead_28 : decode cX5_goesAhead 28 = .ok (.getfield 15, 3) := by decide +kernel
theorem dX5_goesAhead_31 : decode cX5_goesAhead 31 = .ok (.getfield 33, 3) := by decide +kernel
theorem dX5_goesAhead_34 : decode cX5_goesAhead 34 = .ok (.iload_n 1, 1) := by decide +kernel
theorem dX5_goesAhead_35 : decode cX5_goesAhead 35 = .ok (.aaload, 1) := by decide +kernel
theorem dX5_goesAhead_36 : decode cX5_goesAhead 36 = .ok (.iconst 0, 1) := by decide +kernel
theorem dX5_goesAhead_37 : decode cX5_goesAhead 37 = .ok (.iaload, 1) := by decide +kernel
theorem dX5_goesAhead_38 : decode cX5_goesAhead 38 = .ok (.aload_n 0, 1) := by decide +kernel
theorem dX5_goesAhead_39 : decode cX5_goesAhead 39 = .ok (.getfield 15, 3) := by decide +kernel
theorem dX5_goesAhead_42 : decode cX5_goesAhead 42 = .ok (.getfield 33, 3) := by decide +kernel
theorem dX5_goesAhead_45 : decode cX5_goesAhead 45 = .ok (.iload_n 2, 1) := by decide +kernel
theorem dX5_goesAhead_46 : decode cX5_goesAhead 46 = .ok (.aaload, 1) := by decide +kernel
theorem dX5_goesAhead_47 : decode cX5_goesAhead 47 = .ok (.iconst 0, 1) := by decide +kernel
theorem dX5_goesAhead_48 : decode cX5_goesAhead 48 = .ok (.iaload, 1) := by decide +kernel
theorem dX5_goesAhead_49 : decode cX5_goesAhead 49 = .ok (.if_icmp .ge 7, 3) := by decide +kernel
theorem dX5_goesAhead_52 : decode cX5_goesAhead 52 = .ok (.iconst 1, 1) := by decide +kernel
theorem dX5_goesAhead_53 : decode cX5_goesAhead 53 = .ok (.goto 37, 3) := by decide +kernel
theorem dX5_goesAhead_56 : decode cX5_goesAhead 56 = .ok (.iconst 0, 1) := by decide +kernel
theorem dX5_goesAhead_57 : decode cX5_goesAhead 57 = .ok (.goto 33, 3) := by decide +kernel
theorem dX5_goesAhead_60 : decode cX5_goesAhead 60 = .ok (.aload_n 0, 1) := by decide +kernel
theorem dX5_goesAhead_61 : decode cX5_goesAhead 61 = .ok (.getfield 15, 3) := by decide +kernel
theorem dX5_goesAhead_64 : decode cX5_goesAhead 64 = .ok (.getfield 33, 3) := by decide +kernel
theorem dX5_goesAhead_67 : decode cX5_goesAhead 67 = .ok (.iload_n 1, 1) := by decide +kernel
theorem dX5_goesAhead_68 : decode cX5_goesAhead 68 = .ok (.aaload, 1) := by decide +kernel
theorem dX5_goesAhead_69 : decode cX5_goesAhead 69 = .ok (.iconst 1, 1) := by decide +kernel
theorem dX5_goesAhead_70 : decode cX5_goesAhead 70 = .ok (.iaload, 1) := by decide +kernel
theorem dX5_goesAhead_71 : decode cX5_goesAhead 71 = .ok (.aload_n 0, 1) := by decide +kernel
theorem dX5_goesAhead_72 : decode cX5_goesAhead 72 = .ok (.getfield 15, 3) := by decide +kernel
theorem dX5_goesAhead_75 : decode cX5_goesAhead 75 = .ok (.getfield 33, 3) := by decide +kernel
theorem dX5_goesAhead_78 : decode cX5_goesAhead 78 = .ok (.iload_n 2, 1) := by decide +kernel
theorem dX5_goesAhead_79 : decode cX5_goesAhead 79 = .ok (.aaload, 1) := by decide +kernel
theorem dX5_goesAhead_80 : decode cX5_goesAhead 80 = .ok (.iconst 1, 1) := by decide +kernel
theorem dX5_goesAhead_81 : decode cX5_goesAhead 81 = .ok (.iaload, 1) := by decide +kernel
theorem dX5_goesAhead_82 : decode cX5_goesAhead 82 = .ok (.if_icmp .le 7, 3) := by decide +kernel
theorem dX5_goesAhead_85 : decode cX5_goesAhead 85 = .ok (.iconst 1, 1) := by decide +kernel
theorem dX5_goesAhead_86 : decode cX5_goesAhead 86 = .ok (.goto 4, 3) := by decide +kernel
theorem dX5_goesAhead_89 : decode cX5_goesAhead 89 = .ok (.iconst 0, 1) := by decide +kernel
theorem dX5_goesAhead_90 : decode cX5_goesAhead 90 = .ok (.ireturn, 1) := by decide +kernel
theorem dX5_isShorterFirst_0 : decode cX5_isShorterFirst 0 = .ok (.aload_n 0, 1) := by decide +kernel
theorem dX5_isShorterFirst_1 : decode cX5_isShorterFirst 1 = .ok (.getfield 15, 3) := by decide +kernel
theorem dX5_isShorterFirst_4 : decode cX5_isShorterFirst 4 = .ok (.getfield 33, 3) := by decide +kernel
theorem dX5_isShorterFirst_7 : decode cX5_isShorterFirst 7 = .ok (.iload_n 1, 1) := by decide +kernel
theorem dX5_isShorterFirst_8 : decode cX5_isShorterFirst 8 = .ok (.aaload, 1) := by decide +kernel
theorem dX5_isShorterFirst_9 : decode cX5_isShorterFirst 9 = .ok (.iconst 0, 1) := by decide +kernel
theorem dX5_isShorterFirst_10 : decode cX5_isShorterFirst 10 = .ok (.iaload, 1) := by decide +kernel
theorem dX5_isShorterFirst_11 : decode cX5_isShorterFirst 11 = .ok (.aload_n 0, 1) := by decide +kernel
theorem dX5_isShorterFirst_12 : decode cX5_isShorterFirst 12 = .ok (.getfield 15, 3) := by decide +kernel
theorem dX5_isShorterFirst_15 : decode cX5_isShorterFirst 15 = .ok (.getfield 33, 3) := by decide +kernel
theorem dX5_isShorterFirst_18 : decode cX5_isShorterFirst 18 = .ok (.iload_n 1, 1) := by decide +kernel
theorem dX5_isShorterFirst_19 : decode cX5_isShorterFirst 19 = .ok (.aaload, 1) := by decide +kernel
theorem dX5_isShorterFirst_20 : decode cX5_isShorterFirst 20 = .ok (.iconst 1, 1) := by decide +kernel
theorem dX5_isShorterFirst_21 : decode cX5_isShorterFirst 21 = .ok (.iaload, 1) := by decide +kernel
theorem dX5_isShorterFirst_22 : decode cX5_isShorterFirst 22 = .ok (.if_icmp .ge 7, 3) := by decide +kernel
theorem dX5_isShorterFirst_25 : decode cX5_isShorterFirst 25 = .ok (.iconst 1, 1) := by decide +kernel
theorem dX5_isShorterFirst_26 : decode cX5_isShorterFirst 26 = .ok (.goto 4, 3) := by decide +kernel
theorem dX5_isShorterFirst_29 : decode cX5_isShorterFirst 29 = .ok (.iconst 0, 1) := by decide +kernel
theorem dX5_isShorterFirst_30 : decode cX5_isShorterFirst 30 = .ok (.ireturn, 1) := by decide +kernel
theorem dX5_lastEnd_0 : decode cX5_lastEnd 0 = .ok (.iconst 0, 1) := by decide +kernel
theorem dX5_lastEnd_1 : decode cX5_lastEnd 1 = .ok (.istore_n 1, 1) := by decide +kernel
theorem dX5_lastEnd_2 : decode cX5_lastEnd 2 = .ok (.iconst 0, 1) := by decide +kernel
theorem dX5_lastEnd_3 : decode cX5_lastEnd 3 = .ok (.istore_n 2, 1) := by decide +kernel
theorem dX5_lastEnd_4 : decode cX5_lastEnd 4 = .ok (.iconst 0, 1) := by decide +kernel
theorem dX5_lastEnd_5 : decode cX5_lastEnd 5 = .ok (.istore_n 3, 1) := by decide +kernel
theorem dX5_lastEnd_6 : decode cX5_lastEnd 6 = .ok (.iload_n 3, 1) := by decide +kernel
theorem dX5_lastEnd_7 : decode cX5_lastEnd 7 = .ok (.aload_n 0, 1) := by decide +kernel
theorem dX5_lastEnd_8 : decode cX5_lastEnd 8 = .ok (.getfield 15, 3) := by decide +kernel
theorem dX5_lastEnd_11 : decode cX5_lastEnd 11 = .ok (.getfield 19, 3) := by decide +kernel
theorem dX5_lastEnd_14 : decode cX5_lastEnd 14 = .ok (.if_icmp .ge 51, 3) := by decide +kernel
theorem dX5_lastEnd_17 : decode cX5_lastEnd 17 = .ok (.iload_n 1, 1) := by decide +kernel
theorem dX5_lastEnd_18 : decode cX5_lastEnd 18 = .ok (.aload_n 0, 1) := by decide +kernel
theorem dX5_lastEnd_19 : decode cX5_lastEnd 19 = .ok (.getfield 15, 3) := by decide +kernel
theorem dX5_lastEnd_22 : decode cX5_lastEnd 22 = .ok (.getfield 33, 3) := by decide +kernel
theorem dX5_lastEnd_25 : decode cX5_lastEnd 25 = .ok (.aload_n 0, 1) := by decide +kernel
theorem dX5_lastEnd_26 : decode cX5_lastEnd 26 = .ok (.getfield 9, 3) := by decide +kernel
theorem dX5_lastEnd_29 : decode cX5_lastEnd 29 = .ok (.iload_n 3, 1) := by decide +kernel
theorem dX5_lastEnd_30 : decode cX5_lastEnd 30 = .ok (.iaload, 1) := by decide +kernel
theorem dX5_lastEnd_31 : decode cX5_lastEnd 31 = .ok (.aaload, 1) := by decide +kernel
theorem dX5_lastEnd_32 : decode cX5_lastEnd 32 = .ok (.iconst 0, 1) := by decide +kernel
theorem dX5_lastEnd_33 : decode cX5_lastEnd 33 = .ok (.iaload, 1) := by decide +kernel
theorem dX5_lastEnd_34 : decode cX5_lastEnd 34 = .ok (.iadd, 1) := by decide +kernel
theorem dX5_lastEnd_35 : decode cX5_lastEnd 35 = .ok (.istore_n 1, 1) := by decide +kernel
theorem dX5_lastEnd_36 : decode cX5_lastEnd 36 = .ok (.iload_n 1, 1) := by decide +kernel
theorem dX5_lastEnd_37 : decode cX5_lastEnd 37 = .ok (.iload_n 2, 1) := by decide +kernel
theorem dX5_lastEnd_38 : decode cX5_lastEnd 38 = .ok (.invokestatic 37, 3) := by decide +kernel
theorem dX5_lastEnd_41 : decode cX5_lastEnd 41 = .ok (.aload_n 0, 1) := by decide +kernel
theorem dX5_lastEnd_42 : decode cX5_lastEnd 42 = .ok (.getfield 15, 3) := by decide +kernel
theorem dX5_lastEnd_45 : decode cX5_lastEnd 45 = .ok (.getfield 33, 3) := by decide +kernel
theorem dX5_lastEnd_48 : decode cX5_lastEnd 48 = .ok (.aload_n 0, 1) := by decide +kernel
theorem dX5_lastEnd_49 : decode cX5_lastEnd 49 = .ok (.getfield 9, 3) := by decide +kernel
theorem dX5_lastEnd_52 : decode cX5_lastEnd 52 = .ok (.iload_n 3, 1) := by decide +kernel
theorem dX5_lastEnd_53 : decode cX5_lastEnd 53 = .ok (.iaload, 1) := by decide +kernel
theorem dX5_lastEnd_54 : decode cX5_lastEnd 54 = .ok (.aaload, 1) := by decide +kernel
theorem dX5_lastEnd_55 : decode cX5_lastEnd 55 = .ok (.iconst 1, 1) := by decide +kernel
theorem dX5_lastEnd_56 : decode cX5_lastEnd 56 = .ok (.iaload, 1) := by decide +kernel
theorem dX5_lastEnd_57 : decode cX5_lastEnd 57 = .ok (.iadd, 1) := by decide +kernel
theorem dX5_lastEnd_58 : decode cX5_lastEnd 58 = .ok (.istore_n 2, 1) := by decide +kernel
theorem dX5_lastEnd_59 : decode cX5_lastEnd 59 = .ok (.iinc 3 1, 3) := by decide +kernel
theorem dX5_lastEnd_62 : decode cX5_lastEnd 62 = .ok (.goto (-56), 3) := by decide +kernel
theorem dX5_lastEnd_65 : decode cX5_lastEnd 65 = .ok (.iload_n 2, 1) := by decide +kernel
theorem dX5_lastEnd_66 : decode cX5_lastEnd 66 = .ok (.ireturn, 1) := by decide +kernel
theorem dX5_inAnyOrder_0 : decode cX5_inAnyOrder 0 = .ok (.iconst 0, 1) := by decide +kernel
theorem dX5_inAnyOrder_1 : decode cX5_inAnyOrder 1 = .ok (.istore_n 1, 1) := by decide +kernel
theorem dX5_inAnyOrder_2 : decode cX5_inAnyOrder 2 = .ok (.iconst 0, 1) := by decide +kernel
theorem dX5_inAnyOrder_3 : decode cX5_inAnyOrder 3 = .ok (.istore_n 2, 1) := by decide +kernel
theorem dX5_inAnyOrder_4 : decode cX5_inAnyOrder 4 = .ok (.iconst 0, 1) := by decide +kernel
theorem dX5_inAnyOrder_5 : decode cX5_inAnyOrder 5 = .ok (.istore_n 3, 1) := by decide +kernel
theorem dX5_inAnyOrder_6 : decode cX5_inAnyOrder 6 = .ok (.iconst 0, 1) := by decide +kernel
theorem dX5_inAnyOrder_7 : decode cX5_inAnyOrder 7 = .ok (.istore 4, 2) := by decide +kernel
theorem dX5_inAnyOrder_9 : decode cX5_inAnyOrder 9 = .ok (.iload 4, 2) := by decide +kernel
theorem dX5_inAnyOrder_11 : decode cX5_inAnyOrder 11 = .ok (.aload_n 0, 1) := by decide +kernel
theorem dX5_inAnyOrder_12 : decode cX5_inAnyOrder 12 = .ok (.getfield 15, 3) := by decide +kernel
theorem dX5_inAnyOrder_15 : decode cX5_inAnyOrder 15 = .ok (.getfield 19, 3) := by decide +kernel
theorem dX5_inAnyOrder_18 : decode cX5_inAnyOrder 18 = .ok (.if_icmp .ge 69, 3) := by decide +kernel
theorem dX5_inAnyOrder_21 : decode cX5_inAnyOrder 21 = .ok (.iload_n 1, 1) := by decide +kernel
theorem dX5_inAnyOrder_22 : decode cX5_inAnyOrder 22 = .ok (.aload_n 0, 1) := by decide +kernel
theorem dX5_inAnyOrder_23 : decode cX5_inAnyOrder 23 = .ok (.getfield 15, 3) := by decide +kernel
theorem dX5_inAnyOrder_26 : decode cX5_inAnyOrder 26 = .ok (.getfield 33, 3) := by decide +kernel
theorem dX5_inAnyOrder_29 : decode cX5_inAnyOrder 29 = .ok (.iload 4, 2) := by decide +kernel
theorem dX5_inAnyOrder_31 : decode cX5_inAnyOrder 31 = .ok (.aaload, 1) := by decide +kernel
theorem dX5_inAnyOrder_32 : decode cX5_inAnyOrder 32 = .ok (.iconst 0, 1) := by decide +kernel
theorem dX5_inAnyOrder_33 : decode cX5_inAnyOrder 33 = .ok (.iaload, 1) := by decide +kernel
theorem dX5_inAnyOrder_34 : decode cX5_inAnyOrder 34 = .ok (.iadd, 1) := by decide +kernel
theorem dX5_inAnyOrder_35 : decode cX5_inAnyOrder 35 = .ok (.istore_n 1, 1) := by decide +kernel
theorem dX5_inAnyOrder_36 : decode cX5_inAnyOrder 36 = .ok (.iload_n 2, 1) := by decide +kernel
theorem dX5_inAnyOrder_37 : decode cX5_inAnyOrder 37 = .ok (.aload_n 0, 1) := by decide +kernel
theorem dX5_inAnyOrder_38 : decode cX5_inAnyOrder 38 = .ok (.getfield 15, 3) := by decide +kernel
theorem dX5_inAnyOrder_41 : decode cX5_inAnyOrder 41 = .ok (.getfield 33, 3) := by decide +kernel
theorem dX5_inAnyOrder_44 : decode cX5_inAnyOrder 44 = .ok (.iload 4, 2) := by decide +kernel
theorem dX5_inAnyOrder_46 : decode cX5_inAnyOrder 46 = .ok (.aaload, 1) := by decide +kernel
theorem dX5_inAnyOrder_47 : decode cX5_inAnyOrder 47 = .ok (.iconst 1, 1) := by decide +kernel
theorem dX5_inAnyOrder_48 : decode cX5_inAnyOrder 48 = .ok (.iaload, 1) := by decide +kernel
theorem dX5_inAnyOrder_49 : decode cX5_inAnyOrder 49 = .ok (.iadd, 1) := by decide +kernel
theorem dX5_inAnyOrder_50 : decode cX5_inAnyOrder 50 = .ok (.istore_n 2, 1) := by decide +kernel
theorem dX5_inAnyOrder_51 : decode cX5_inAnyOrder 51 = .ok (.iload_n 3, 1) := by decide +kernel
theorem dX5_inAnyOrder_52 : decode cX5_inAnyOrder 52 = .ok (.aload_n 0, 1) := by decide +kernel
theorem dX5_inAnyOrder_53 : decode cX5_inAnyOrder 53 = .ok (.getfield 15, 3) := by decide +kernel
theorem dX5_inAnyOrder_56 : decode cX5_inAnyOrder 56 = .ok (.getfield 33, 3) := by decide +kernel
theorem dX5_inAnyOrder_59 : decode cX5_inAnyOrder 59 = .ok (.iload 4, 2) := by decide +kernel
theorem dX5_inAnyOrder_61 : decode cX5_inAnyOrder 61 = .ok (.aaload, 1) := by decide +kernel
theorem dX5_inAnyOrder_62 : decode cX5_inAnyOrder 62 = .ok (.iconst 0, 1) := by decide +kernel
theorem dX5_inAnyOrder_63 : decode cX5_inAnyOrder 63 = .ok (.iaload, 1) := by decide +kernel
theorem dX5_inAnyOrder_64 : decode cX5_inAnyOrder 64 = .ok (.aload_n 0, 1) := by decide +kernel
theorem dX5_inAnyOrder_65 : decode cX5_inAnyOrder 65 = .ok (.getfield 15, 3) := by decide +kernel
theorem dX5_inAnyOrder_68 : decode cX5_inAnyOrder 68 = .ok (.getfield 33, 3) := by decide +kernel
theorem dX5_inAnyOrder_71 : decode cX5_inAnyOrder 71 = .ok (.iload 4, 2) := by decide +kernel
theorem dX5_inAnyOrder_73 : decode cX5_inAnyOrder 73 = .ok (.aaload, 1) := by decide +kernel
theorem dX5_inAnyOrder_74 : decode cX5_inAnyOrder 74 = .ok (.iconst 1, 1) := by decide +kernel
theorem dX5_inAnyOrder_75 : decode cX5_inAnyOrder 75 = .ok (.iaload, 1) := by decide +kernel
theorem dX5_inAnyOrder_76 : decode cX5_inAnyOrder 76 = .ok (.iadd, 1) := by decide +kernel
theorem dX5_inAnyOrder_77 : decode cX5_inAnyOrder 77 = .ok (.invokestatic 37, 3) := by decide +kernel
theorem dX5_inAnyOrder_80 : decode cX5_inAnyOrder 80 = .ok (.istore_n 3, 1) := by decide +kernel
theorem dX5_inAnyOrder_81 : decode cX5_inAnyOrder 81 = .ok (.iinc 4 1, 3) := by decide +kernel
theorem dX5_inAnyOrder_84 : decode cX5_inAnyOrder 84 = .ok (.goto (-75), 3) := by decide +kernel
theorem dX5_inAnyOrder_87 : decode cX5_inAnyOrder 87 = .ok (.iload_n 3, 1) := by decide +kernel
theorem dX5_inAnyOrder_88 : decode cX5_inAnyOrder 88 = .ok (.iload_n 1, 1) := by decide +kernel
theorem dX5_inAnyOrder_89 : decode cX5_inAnyOrder 89 = .ok (.iload_n 2, 1) := by decide +kernel
theorem dX5_inAnyOrder_90 : decode cX5_inAnyOrder 90 = .ok (.invokestatic 37, 3) := by decide +kernel
theorem dX5_inAnyOrder_93 : decode cX5_inAnyOrder 93 = .ok (.invokestatic 37, 3) := by decide +kernel
theorem dX5_inAnyOrder_96 : decode cX5_inAnyOrder 96 = .ok (.ireturn, 1) := by decide +kernel
theorem dX6_init_0 : decode cX6_init 0 = .ok (.aload_n 0, 1) := by decide +kernel
