theorem dX6_init_1 : decode cX6_init 1 = .ok (.invokespecial 3, 3) := by decide +kernel
theorem dX6_init_4 : decode cX6_init 4 = .ok (.aload_n 0, 1) := by decide +kernel
theorem dX6_init_5 : decode cX6_init 5 = .ok (.bipush 8, 2) := by decide +kernel
theorem dX6_init_7 : decode cX6_init 7 = .ok (.newarray .int, 2) := by decide +kernel
theorem dX6_init_9 : decode cX6_init 9 = .ok (.putfield 9, 3) := by decide +kernel
theorem dX6_init_12 : decode cX6_init 12 = .ok (.return_, 1) := by decide +kernel
theorem dX6_holds_0 : decode cX6_holds 0 = .ok (.aload_n 0, 1) := by decide +kernel
theorem dX6_holds_1 : decode cX6_holds 1 = .ok (.getfield 15, 3) := by decide +kernel
theorem dX6_holds_4 : decode cX6_holds 4 = .ok (.iload_n 1, 1) := by decide +kernel
theorem dX6_holds_5 : decode cX6_holds 5 = .ok (.invokestatic 19, 3) := by decide +kernel
theorem dX6_holds_8 : decode cX6_holds 8 = .ok (.ireturn, 1) := by decide +kernel
theorem dX6_add_0 : decode cX6_add 0 = .ok (.aload_n 0, 1) := by decide +kernel
theorem dX6_add_1 : decode cX6_add 1 = .ok (.getfield 9, 3) := by decide +kernel
theorem dX6_add_4 : decode cX6_add 4 = .ok (.aload_n 0, 1) := by decide +kernel
theorem dX6_add_5 : decode cX6_add 5 = .ok (.getfield 23, 3) := by decide +kernel
theorem dX6_add_8 : decode cX6_add 8 = .ok (.iload_n 1, 1) := by decide +kernel
theorem dX6_add_9 : decode cX6_add 9 = .ok (.iastore, 1) := by decide +kernel
theorem dX6_add_10 : decode cX6_add 10 = .ok (.aload_n 0, 1) := by decide +kernel
theorem dX6_add_11 : decode cX6_add 11 = .ok (.dup, 1) := by decide +kernel
theorem dX6_add_12 : decode cX6_add 12 = .ok (.getfield 15, 3) := by decide +kernel
theorem dX6_add_15 : decode cX6_add 15 = .ok (.iconst 1, 1) := by decide +kernel
theorem dX6_add_16 : decode cX6_add 16 = .ok (.iload_n 1, 1) := by decide +kernel
theorem dX6_add_17 : decode cX6_add 17 = .ok (.ishl, 1) := by decide +kernel
theorem dX6_add_18 : decode cX6_add 18 = .ok (.ior, 1) := by decide +kernel
theorem dX6_add_19 : decode cX6_add 19 = .ok (.putfield 15, 3) := by decide +kernel
theorem dX6_add_22 : decode cX6_add 22 = .ok (.aload_n 0, 1) := by decide +kernel
theorem dX6_add_23 : decode cX6_add 23 = .ok (.dup, 1) := by decide +kernel
theorem dX6_add_24 : decode cX6_add 24 = .ok (.getfield 23, 3) := by decide +kernel
theorem dX6_add_27 : decode cX6_add 27 = .ok (.iconst 1, 1) := by decide +kernel
theorem dX6_add_28 : decode cX6_add 28 = .ok (.iadd, 1) := by decide +kernel
theorem dX6_add_29 : decode cX6_add 29 = .ok (.putfield 23, 3) := by decide +kernel
theorem dX6_add_32 : decode cX6_add 32 = .ok (.aload_n 0, 1) := by decide +kernel
theorem dX6_add_33 : decode cX6_add 33 = .ok (.getfield 23, 3) := by decide +kernel
theorem dX6_add_36 : decode cX6_add 36 = .ok (.ireturn, 1) := by decide +kernel
theorem dX6_empty_0 : decode cX6_empty 0 = .ok (.aload_n 0, 1) := by decide +kernel
theorem dX6_empty_1 : decode cX6_empty 1 = .ok (.getfield 23, 3) := by decide +kernel
theorem dX6_empty_4 : decode cX6_empty 4 = .ok (.istore_n 1, 1) := by decide +kernel
theorem dX6_empty_5 : decode cX6_empty 5 = .ok (.aload_n 0, 1) := by decide +kernel
theorem dX6_empty_6 : decode cX6_empty 6 = .ok (.iconst 0, 1) := by decide +kernel
theorem dX6_empty_7 : decode cX6_empty 7 = .ok (.putfield 23, 3) := by decide +kernel
theorem dX6_empty_10 : decode cX6_empty 10 = .ok (.aload_n 0, 1) := by decide +kernel
theorem dX6_empty_11 : decode cX6_empty 11 = .ok (.iconst 0, 1) := by decide +kernel
theorem dX6_empty_12 : decode cX6_empty 12 = .ok (.putfield 15, 3) := by decide +kernel
theorem dX6_empty_15 : decode cX6_empty 15 = .ok (.iload_n 1, 1) := by decide +kernel
theorem dX6_empty_16 : decode cX6_empty 16 = .ok (.ireturn, 1) := by decide +kernel
theorem dX6_foldInto_0 : decode cX6_foldInto 0 = .ok (.iconst 0, 1) := by decide +kernel
theorem dX6_foldInto_1 : decode cX6_foldInto 1 = .ok (.istore_n 3, 1) := by decide +kernel
theorem dX6_foldInto_2 : decode cX6_foldInto 2 = .ok (.iload_n 3, 1) := by decide +kernel
theorem dX6_foldInto_3 : decode cX6_foldInto 3 = .ok (.aload_n 0, 1) := by decide +kernel
theorem dX6_foldInto_4 : decode cX6_foldInto 4 = .ok (.getfield 23, 3) := by decide +kernel
theorem dX6_foldInto_7 : decode cX6_foldInto 7 = .ok (.if_icmp .ge 20, 3) := by decide +kernel
theorem dX6_foldInto_10 : decode cX6_foldInto 10 = .ok (.lload_n 1, 1) := by decide +kernel
theorem dX6_foldInto_11 : decode cX6_foldInto 11 = .ok (.aload_n 0, 1) := by decide +kernel
theorem dX6_foldInto_12 : decode cX6_foldInto 12 = .ok (.getfield 9, 3) := by decide +kernel
theorem dX6_foldInto_15 : decode cX6_foldInto 15 = .ok (.iload_n 3, 1) := by decide +kernel
theorem dX6_foldInto_16 : decode cX6_foldInto 16 = .ok (.iaload, 1) := by decide +kernel
theorem dX6_foldInto_17 : decode cX6_foldInto 17 = .ok (.invokestatic 26, 3) := by decide +kernel
theorem dX6_foldInto_20 : decode cX6_foldInto 20 = .ok (.lstore_n 1, 1) := by decide +kernel
theorem dX6_foldInto_21 : decode cX6_foldInto 21 = .ok (.iinc 3 1, 3) := by decide +kernel
theorem dX6_foldInto_24 : decode cX6_foldInto 24 = .ok (.goto (-22), 3) := by decide +kernel
theorem dX6_foldInto_27 : decode cX6_foldInto 27 = .ok (.lload_n 1, 1) := by decide +kernel
theorem dX6_foldInto_28 : decode cX6_foldInto 28 = .ok (.lreturn, 1) := by decide +kernel
theorem dX7_init_0 : decode cX7_init 0 = .ok (.aload_n 0, 1) := by decide +kernel
theorem dX7_init_1 : decode cX7_init 1 = .ok (.invokespecial 3, 3) := by decide +kernel
theorem dX7_init_4 : decode cX7_init 4 = .ok (.aload_n 0, 1) := by decide +kernel
theorem dX7_init_5 : decode cX7_init 5 = .ok (.iconst 2, 1) := by decide +kernel
theorem dX7_init_6 : decode cX7_init 6 = .ok (.putfield 9, 3) := by decide +kernel
theorem dX7_init_9 : decode cX7_init 9 = .ok (.aload_n 0, 1) := by decide +kernel
theorem dX7_init_10 : decode cX7_init 10 = .ok (.bipush 12, 2) := by decide +kernel
theorem dX7_init_12 : decode cX7_init 12 = .ok (.newarray .int, 2) := by decide +kernel
theorem dX7_init_14 : decode cX7_init 14 = .ok (.putfield 15, 3) := by decide +kernel
theorem dX7_init_17 : decode cX7_init 17 = .ok (.aload_n 0, 1) := by decide +kernel
theorem dX7_init_18 : decode cX7_init 18 = .ok (.bipush 12, 2) := by decide +kernel
theorem dX7_init_20 : decode cX7_init 20 = .ok (.newarray .int, 2) := by decide +kernel
theorem dX7_init_22 : decode cX7_init 22 = .ok (.putfield 19, 3) := by decide +kernel
theorem dX7_init_25 : decode cX7_init 25 = .ok (.aload_n 0, 1) := by decide +kernel
theorem dX7_init_26 : decode cX7_init 26 = .ok (.bipush 12, 2) := by decide +kernel
theorem dX7_init_28 : decode cX7_init 28 = .ok (.newarray .int, 2) := by decide +kernel
theorem dX7_init_30 : decode cX7_init 30 = .ok (.putfield 22, 3) := by decide +kernel
theorem dX7_init_33 : decode cX7_init 33 = .ok (.aload_n 0, 1) := by decide +kernel
theorem dX7_init_34 : decode cX7_init 34 = .ok (.sipush 4096, 3) := by decide +kernel
theorem dX7_init_37 : decode cX7_init 37 = .ok (.newarray .byte, 2) := by decide +kernel
theorem dX7_init_39 : decode cX7_init 39 = .ok (.putfield 25, 3) := by decide +kernel
theorem dX7_init_42 : decode cX7_init 42 = .ok (.return_, 1) := by decide +kernel
theorem dX7_add_0 : decode cX7_add 0 = .ok (.aload_n 0, 1) := by decide +kernel
theorem dX7_add_1 : decode cX7_add 1 = .ok (.getfield 29, 3) := by decide +kernel
theorem dX7_add_4 : decode cX7_add 4 = .ok (.istore_n 2, 1) := by decide +kernel
theorem dX7_add_5 : decode cX7_add 5 = .ok (.aload_n 0, 1) := by decide +kernel
theorem dX7_add_6 : decode cX7_add 6 = .ok (.getfield 19, 3) := by decide +kernel
theorem dX7_add_9 : decode cX7_add 9 = .ok (.iload_n 2, 1) := by decide +kernel
theorem dX7_add_10 : decode cX7_add 10 = .ok (.iload_n 1, 1) := by decide +kernel
theorem dX7_add_11 : decode cX7_add 11 = .ok (.iastore, 1) := by decide +kernel
theorem dX7_add_12 : decode cX7_add 12 = .ok (.aload_n 0, 1) := by decide +kernel
theorem dX7_add_13 : decode cX7_add 13 = .ok (.getfield 22, 3) := by decide +kernel
theorem dX7_add_16 : decode cX7_add 16 = .ok (.iload_n 2, 1) := by decide +kernel
theorem dX7_add_17 : decode cX7_add 17 = .ok (.iload_n 1, 1) := by decide +kernel
theorem dX7_add_18 : decode cX7_add 18 = .ok (.iconst (-1), 1) := by decide +kernel
theorem dX7_add_19 : decode cX7_add 19 = .ok (.if_icmp .ne 7, 3) := by decide +kernel
theorem dX7_add_22 : decode cX7_add 22 = .ok (.iconst 1, 1) := by decide +kernel
theorem dX7_add_23 : decode cX7_add 23 = .ok (.goto 11, 3) := by decide +kernel
theorem dX7_add_26 : decode cX7_add 26 = .ok (.aload_n 0, 1) := by decide +kernel
theorem dX7_add_27 : decode cX7_add 27 = .ok (.getfield 22, 3) := by decide +kernel
theorem dX7_add_30 : decode cX7_add 30 = .ok (.iload_n 1, 1) := by decide +kernel
theorem dX7_add_31 : decode cX7_add 31 = .ok (.iaload, 1) := by decide +kernel
theorem dX7_add_32 : decode cX7_add 32 = .ok (.iconst 1, 1) := by decide +kernel
theorem dX7_add_33 : decode cX7_add 33 = .ok (.iadd, 1) := by decide +kernel
theorem dX7_add_34 : decode cX7_add 34 = .ok (.iastore, 1) := by decide +kernel
theorem dX7_add_35 : decode cX7_add 35 = .ok (.aload_n 0, 1) := by decide +kernel
theorem dX7_add_36 : decode cX7_add 36 = .ok (.dup, 1) := by decide +kernel
theorem dX7_add_37 : decode cX7_add 37 = .ok (.getfield 29, 3) := by decide +kernel
theorem dX7_add_40 : decode cX7_add 40 = .ok (.iconst 1, 1) := by decide +kernel
theorem dX7_add_41 : decode cX7_add 41 = .ok (.iadd, 1) := by decide +kernel
theorem dX7_add_42 : decode cX7_add 42 = .ok (.putfield 29, 3) := by decide +kernel
theorem dX7_add_45 : decode cX7_add 45 = .ok (.iload_n 2, 1) := by decide +kernel
theorem dX7_add_46 : decode cX7_add 46 = .ok (.ireturn, 1) := by decide +kernel
theorem dX7_empty_0 : decode cX7_empty 0 = .ok (.aload_n 0, 1) := by decide +kernel
theorem dX7_empty_1 : decode cX7_empty 1 = .ok (.getfield 29, 3) := by decide +kernel
theorem dX7_empty_4 : decode cX7_empty 4 = .ok (.istore_n 1, 1) := by decide +kernel
theorem dX7_empty_5 : decode cX7_empty 5 = .ok (.aload_n 0, 1) := by decide +kernel
theorem dX7_empty_6 : decode cX7_empty 6 = .ok (.iconst 0, 1) := by decide +kernel
theorem dX7_empty_7 : decode cX7_empty 7 = .ok (.putfield 29, 3) := by decide +kernel
theorem dX7_empty_10 : decode cX7_empty 10 = .ok (.iload_n 1, 1) := by decide +kernel
theorem dX7_empty_11 : decode cX7_empty 11 = .ok (.ireturn, 1) := by decide +kernel
theorem dX7_all_0 : decode cX7_all 0 = .ok (.iconst 1, 1) := by decide +kernel
theorem dX7_all_1 : decode cX7_all 1 = .ok (.aload_n 0, 1) := by decide +kernel
theorem dX7_all_2 : decode cX7_all 2 = .ok (.getfield 29, 3) := by decide +kernel
theorem dX7_all_5 : decode cX7_all 5 = .ok (.ishl, 1) := by decide +kernel
theorem dX7_all_6 : decode cX7_all 6 = .ok (.iconst 1, 1) := by decide +kernel
theorem dX7_all_7 : decode cX7_all 7 = .ok (.isub, 1) := by decide +kernel
theorem dX7_all_8 : decode cX7_all 8 = .ok (.ireturn, 1) := by decide +kernel
theorem dX7_freeBehind_0 : decode cX7_freeBehind 0 = .ok (.iconst 0, 1) := by decide +kernel
theorem dX7_freeBehind_1 : decode cX7_freeBehind 1 = .ok (.istore_n 2, 1) := by decide +kernel
theorem dX7_freeBehind_2 : decode cX7_freeBehind 2 = .ok (.iconst 0, 1) := by decide +kernel
theorem dX7_freeBehind_3 : decode cX7_freeBehind 3 = .ok (.istore_n 3, 1) := by decide +kernel
theorem dX7_freeBehind_4 : decode cX7_freeBehind 4 = .ok (.iload_n 3, 1) := by decide +kernel
theorem dX7_freeBehind_5 : decode cX7_freeBehind 5 = .ok (.aload_n 0, 1) := by decide +kernel
theorem dX7_freeBehind_6 : decode cX7_freeBehind 6 = .ok (.getfield 29, 3) := by decide +kernel
theorem dX7_freeBehind_9 : decode cX7_freeBehind 9 = .ok (.if_icmp .ge 38, 3) := by decide +kernel
theorem dX7_freeBehind_12 : decode cX7_freeBehind 12 = .ok (.iload_n 1, 1) := by decide +kernel
theorem dX7_freeBehind_13 : decode cX7_freeBehind 13 = .ok (.iload_n 3, 1) := by decide +kernel
theorem dX7_freeBehind_14 : decode cX7_freeBehind 14 = .ok (.invokestatic 32, 3) := by decide +kernel
theorem dX7_freeBehind_17 : decode cX7_freeBehind 17 = .ok (.ifCond .ne 24, 3) := by decide +kernel
theorem dX7_freeBehind_20 : decode cX7_freeBehind 20 = .ok (.aload_n 0, 1) := by decide +kernel
theorem dX7_freeBehind_21 : decode cX7_freeBehind 21 = .ok (.getfield 19, 3) := by decide +kernel
theorem dX7_freeBehind_24 : decode cX7_freeBehind 24 = .ok (.iload_n 3, 1) := by decide +kernel
theorem dX7_freeBehind_25 : decode cX7_freeBehind 25 = .ok (.iaload, 1) := by decide +kernel
theorem dX7_freeBehind_26 : decode cX7_freeBehind 26 = .ok (.iconst (-1), 1) := by decide +kernel
theorem dX7_freeBehind_27 : decode cX7_freeBehind 27 = .ok (.if_icmp .eq 14, 3) := by decide +kernel
theorem dX7_freeBehind_30 : decode cX7_freeBehind 30 = .ok (.iload_n 2, 1) := by decide +kernel
theorem dX7_freeBehind_31 : decode cX7_freeBehind 31 = .ok (.iconst 1, 1) := by decide +kernel
theorem dX7_freeBehind_32 : decode cX7_freeBehind 32 = .ok (.aload_n 0, 1) := by decide +kernel
theorem dX7_freeBehind_33 : decode cX7_freeBehind 33 = .ok (.getfield 19, 3) := by decide +kernel
theorem dX7_freeBehind_36 : decode cX7_freeBehind 36 = .ok (.iload_n 3, 1) := by decide +kernel
theorem dX7_freeBehind_37 : decode cX7_freeBehind 37 = .ok (.iaload, 1) := by decide +kernel
theorem dX7_freeBehind_38 : decode cX7_freeBehind 38 = .ok (.ishl, 1) := by decide +kernel
theorem dX7_freeBehind_39 : decode cX7_freeBehind 39 = .ok (.ior, 1) := by decide +kernel
theorem dX7_freeBehind_40 : decode cX7_freeBehind 40 = .ok (.istore_n 2, 1) := by decide +kernel
theorem dX7_freeBehind_41 : decode cX7_freeBehind 41 = .ok (.iinc 3 1, 3) := by decide +kernel
theorem dX7_freeBehind_44 : decode cX7_freeBehind 44 = .ok (.goto (-40), 3) := by decide +kernel
theorem dX7_freeBehind_47 : decode cX7_freeBehind 47 = .ok (.aload_n 0, 1) := by decide +kernel
theorem dX7_freeBehind_48 : decode cX7_freeBehind 48 = .ok (.invokevirtual 36, 3) := by decide +kernel
theorem dX7_freeBehind_51 : decode cX7_freeBehind 51 = .ok (.iload_n 1, 1) := by decide +kernel
theorem dX7_freeBehind_52 : decode cX7_freeBehind 52 = .ok (.iconst (-1), 1) := by decide +kernel
theorem dX7_freeBehind_53 : decode cX7_freeBehind 53 = .ok (.ixor, 1) := by decide +kernel
theorem dX7_freeBehind_54 : decode cX7_freeBehind 54 = .ok (.iand, 1) := by decide +kernel
theorem dX7_freeBehind_55 : decode cX7_freeBehind 55 = .ok (.iload_n 2, 1) := by decide +kernel
theorem dX7_freeBehind_56 : decode cX7_freeBehind 56 = .ok (.iconst (-1), 1) := by decide +kernel
theorem dX7_freeBehind_57 : decode cX7_freeBehind 57 = .ok (.ixor, 1) := by decide +kernel
theorem dX7_freeBehind_58 : decode cX7_freeBehind 58 = .ok (.iand, 1) := by decide +kernel
theorem dX7_freeBehind_59 : decode cX7_freeBehind 59 = .ok (.ireturn, 1) := by decide +kernel
theorem dX7_goByLevels_0 : decode cX7_goByLevels 0 = .ok (.iconst 0, 1) := by decide +kernel
theorem dX7_goByLevels_1 : decode cX7_goByLevels 1 = .ok (.istore_n 1, 1) := by decide +kernel
theorem dX7_goByLevels_2 : decode cX7_goByLevels 2 = .ok (.iconst 0, 1) := by decide +kernel
theorem dX7_goByLevels_3 : decode cX7_goByLevels 3 = .ok (.istore_n 2, 1) := by decide +kernel
theorem dX7_goByLevels_4 : decode cX7_goByLevels 4 = .ok (.iload_n 2, 1) := by decide +kernel
theorem dX7_goByLevels_5 : decode cX7_goByLevels 5 = .ok (.bipush 12, 2) := by decide +kernel
theorem dX7_goByLevels_7 : decode cX7_goByLevels 7 = .ok (.if_icmp .ge 76, 3) := by decide +kernel
theorem dX7_goByLevels_10 : decode cX7_goByLevels 10 = .ok (.iload_n 1, 1) := by decide +kernel
theorem dX7_goByLevels_11 : decode cX7_goByLevels 11 = .ok (.aload_n 0, 1) := by decide +kernel
theorem dX7_goByLevels_12 : decode cX7_goByLevels 12 = .ok (.invokevirtual 36, 3) := by decide +kernel
theorem dX7_goByLevels_15 : decode cX7_goByLevels 15 = .ok (.if_icmp .eq 68, 3) := by decide +kernel
theorem dX7_goByLevels_18 : decode cX7_goByLevels 18 = .ok (.aload_n 0, 1) := by decide +kernel
theorem dX7_goByLevels_19 : decode cX7_goByLevels 19 = .ok (.iload_n 1, 1) := by decide +kernel
theorem dX7_goByLevels_20 : decode cX7_goByLevels 20 = .ok (.invokevirtual 40, 3) := by decide +kernel
theorem dX7_goByLevels_23 : decode cX7_goByLevels 23 = .ok (.istore_n 3, 1) := by decide +kernel
theorem dX7_goByLevels_24 : decode cX7_goByLevels 24 = .ok (.iconst 0, 1) := by decide +kernel
theorem dX7_goByLevels_25 : decode cX7_goByLevels 25 = .ok (.istore 4, 2) := by decide +kernel
theorem dX7_goByLevels_27 : decode cX7_goByLevels 27 = .ok (.iload 4, 2) := by decide +kernel
theorem dX7_goByLevels_29 : decode cX7_goByLevels 29 = .ok (.aload_n 0, 1) := by decide +kernel
theorem dX7_goByLevels_30 : decode cX7_goByLevels 30 = .ok (.getfield 9, 3) := by decide +kernel
theorem dX7_goByLevels_33 : decode cX7_goByLevels 33 = .ok (.if_icmp .ge 44, 3) := by decide +kernel
theorem dX7_goByLevels_36 : decode cX7_goByLevels 36 = .ok (.iload_n 3, 1) := by decide +kernel
theorem dX7_goByLevels_37 : decode cX7_goByLevels 37 = .ok (.ifCond .eq 40, 3) := by decide +kernel
theorem dX7_goByLevels_40 : decode cX7_goByLevels 40 = .ok (.aload_n 0, 1) := by decide +kernel
theorem dX7_goByLevels_41 : decode cX7_goByLevels 41 = .ok (.iload_n 3, 1) := by decide +kernel
theorem dX7_goByLevels_42 : decode cX7_goByLevels 42 = .ok (.invokevirtual 44, 3) := by decide +kernel
theorem dX7_goByLevels_45 : decode cX7_goByLevels 45 = .ok (.istore 5, 2) := by decide +kernel
theorem dX7_goByLevels_47 : decode cX7_goByLevels 47 = .ok (.aload_n 0, 1) := by decide +kernel
theorem dX7_goByLevels_48 : decode cX7_goByLevels 48 = .ok (.getfield 15, 3) := by decide +kernel
theorem dX7_goByLevels_51 : decode cX7_goByLevels 51 = .ok (.iload 5, 2) := by decide +kernel
theorem dX7_goByLevels_53 : decode cX7_goByLevels 53 = .ok (.iload_n 2, 1) := by decide +kernel
theorem dX7_goByLevels_54 : decode cX7_goByLevels 54 = .ok (.iastore, 1) := by decide +kernel
theorem dX7_goByLevels_55 : decode cX7_goByLevels 55 = .ok (.iload_n 3, 1) := by decide +kernel
theorem dX7_goByLevels_56 : decode cX7_goByLevels 56 = .ok (.iconst 1, 1) := by decide +kernel
theorem dX7_goByLevels_57 : decode cX7_goByLevels 57 = .ok (.iload 5, 2) := by decide +kernel
theorem dX7_goByLevels_59 : decode cX7_goByLevels 59 = .ok (.ishl, 1) := by decide +kernel
theorem dX7_goByLevels_60 : decode cX7_goByLevels 60 = .ok (.iconst (-1), 1) := by decide +kernel
theorem dX7_goByLevels_61 : decode cX7_goByLevels 61 = .ok (.ixor, 1) := by decide +kernel
theorem dX7_goByLevels_62 : decode cX7_goByLevels 62 = .ok (.iand, 1) := by decide +kernel
theorem dX7_goByLevels_63 : decode cX7_goByLevels 63 = .ok (.istore_n 3, 1) := by decide +kernel
theorem dX7_goByLevels_64 : decode cX7_goByLevels 64 = .ok (.iload_n 1, 1) := by decide +kernel
theorem dX7_goByLevels_65 : decode cX7_goByLevels 65 = .ok (.iconst 1, 1) := by decide +kernel
theorem dX7_goByLevels_66 : decode cX7_goByLevels 66 = .ok (.iload 5, 2) := by decide +kernel
theorem dX7_goByLevels_68 : decode cX7_goByLevels 68 = .ok (.ishl, 1) := by decide +kernel
theorem dX7_goByLevels_69 : decode cX7_goByLevels 69 = .ok (.ior, 1) := by decide +kernel
theorem dX7_goByLevels_70 : decode cX7_goByLevels 70 = .ok (.istore_n 1, 1) := by decide +kernel
theorem dX7_goByLevels_71 : decode cX7_goByLevels 71 = .ok (.iinc 4 1, 3) := by decide +kernel
theorem dX7_goByLevels_74 : decode cX7_goByLevels 74 = .ok (.goto (-47), 3) := by decide +kernel
theorem dX7_goByLevels_77 : decode cX7_goByLevels 77 = .ok (.iinc 2 1, 3) := by decide +kernel
theorem dX7_goByLevels_80 : decode cX7_goByLevels 80 = .ok (.goto (-76), 3) := by decide +kernel
theorem dX7_goByLevels_83 : decode cX7_goByLevels 83 = .ok (.iload_n 2, 1) := by decide +kernel
theorem dX7_goByLevels_84 : decode cX7_goByLevels 84 = .ok (.ireturn, 1) := by decide +kernel
theorem dX7_highestOf_0 : decode cX7_highestOf 0 = .ok (.iload_n 1, 1) := by decide +kernel
theorem dX7_highestOf_1 : decode cX7_highestOf 1 = .ok (.invokestatic 47, 3) := by decide +kernel
theorem dX7_highestOf_4 : decode cX7_highestOf 4 = .ok (.istore_n 2, 1) := by decide +kernel
theorem dX7_highestOf_5 : decode cX7_highestOf 5 = .ok (.iload_n 2, 1) := by decide +kernel
theorem dX7_highestOf_6 : decode cX7_highestOf 6 = .ok (.iconst 1, 1) := by decide +kernel
theorem dX7_highestOf_7 : decode cX7_highestOf 7 = .ok (.iadd, 1) := by decide +kernel
theorem dX7_highestOf_8 : decode cX7_highestOf 8 = .ok (.istore_n 3, 1) := by decide +kernel
theorem dX7_highestOf_9 : decode cX7_highestOf 9 = .ok (.iload_n 3, 1) := by decide +kernel
theorem dX7_highestOf_10 : decode cX7_highestOf 10 = .ok (.aload_n 0, 1) := by decide +kernel
theorem dX7_highestOf_11 : decode cX7_highestOf 11 = .ok (.getfield 29, 3) := by decide +kernel
theorem dX7_highestOf_14 : decode cX7_highestOf 14 = .ok (.if_icmp .ge 34, 3) := by decide +kernel
theorem dX7_highestOf_17 : decode cX7_highestOf 17 = .ok (.iload_n 1, 1) := by decide +kernel
theorem dX7_highestOf_18 : decode cX7_highestOf 18 = .ok (.iload_n 3, 1) := by decide +kernel
theorem dX7_highestOf_19 : decode cX7_highestOf 19 = .ok (.invokestatic 32, 3) := by decide +kernel
theorem dX7_highestOf_22 : decode cX7_highestOf 22 = .ok (.ifCond .eq 20, 3) := by decide +kernel
theorem dX7_highestOf_25 : decode cX7_highestOf 25 = .ok (.aload_n 0, 1) := by decide +kernel
theorem dX7_highestOf_26 : decode cX7_highestOf 26 = .ok (.getfield 22, 3) := by decide +kernel
theorem dX7_highestOf_29 : decode cX7_highestOf 29 = .ok (.iload_n 3, 1) := by decide +kernel
theorem dX7_highestOf_30 : decode cX7_highestOf 30 = .ok (.iaload, 1) := by decide +kernel
theorem dX7_highestOf_31 : decode cX7_highestOf 31 = .ok (.aload_n 0, 1) := by decide +kernel
theorem dX7_highestOf_32 : decode cX7_highestOf 32 = .ok (.getfield 22, 3) := by decide +kernel
theorem dX7_highestOf_35 : decode cX7_highestOf 35 = .ok (.iload_n 2, 1) := by decide +kernel
theorem dX7_highestOf_36 : decode cX7_highestOf 36 = .ok (.iaload, 1) := by decide +kernel
theorem dX7_highestOf_37 : decode cX7_highestOf 37 = .ok (.if_icmp .le 5, 3) := by decide +kernel
theorem dX7_highestOf_40 : decode cX7_highestOf 40 = .ok (.iload_n 3, 1) := by decide +kernel
theorem dX7_highestOf_41 : decode cX7_highestOf 41 = .ok (.istore_n 2, 1) := by decide +kernel
theorem dX7_highestOf_42 : decode cX7_highestOf 42 = .ok (.iinc 3 1, 3) := by decide +kernel
theorem dX7_highestOf_45 : decode cX7_highestOf 45 = .ok (.goto (-36), 3) := by decide +kernel
theorem dX7_highestOf_48 : decode cX7_highestOf 48 = .ok (.iload_n 2, 1) := by decide +kernel
theorem dX7_highestOf_49 : decode cX7_highestOf 49 = .ok (.ireturn, 1) := by decide +kernel
theorem dX7_leastMinutes_0 : decode cX7_leastMinutes 0 = .ok (.aload_n 0, 1) := by decide +kernel
theorem dX7_leastMinutes_1 : decode cX7_leastMinutes 1 = .ok (.getfield 25, 3) := by decide +kernel
theorem dX7_leastMinutes_4 : decode cX7_leastMinutes 4 = .ok (.iconst 0, 1) := by decide +kernel
theorem dX7_leastMinutes_5 : decode cX7_leastMinutes 5 = .ok (.aload_n 0, 1) := by decide +kernel
theorem dX7_leastMinutes_6 : decode cX7_leastMinutes 6 = .ok (.invokevirtual 36, 3) := by decide +kernel
theorem dX7_leastMinutes_9 : decode cX7_leastMinutes 9 = .ok (.iconst 1, 1) := by decide +kernel
theorem dX7_leastMinutes_10 : decode cX7_leastMinutes 10 = .ok (.iadd, 1) := by decide +kernel
theorem dX7_leastMinutes_11 : decode cX7_leastMinutes 11 = .ok (.bipush 100, 2) := by decide +kernel
theorem dX7_leastMinutes_13 : decode cX7_leastMinutes 13 = .ok (.invokestatic 52, 3) := by decide +kernel
theorem dX7_leastMinutes_16 : decode cX7_leastMinutes 16 = .ok (.aload_n 0, 1) := by decide +kernel
theorem dX7_leastMinutes_17 : decode cX7_leastMinutes 17 = .ok (.getfield 25, 3) := by decide +kernel
theorem dX7_leastMinutes_20 : decode cX7_leastMinutes 20 = .ok (.iconst 0, 1) := by decide +kernel
theorem dX7_leastMinutes_21 : decode cX7_leastMinutes 21 = .ok (.iconst 0, 1) := by decide +kernel
theorem dX7_leastMinutes_22 : decode cX7_leastMinutes 22 = .ok (.bastore, 1) := by decide +kernel
theorem dX7_leastMinutes_23 : decode cX7_leastMinutes 23 = .ok (.iconst 0, 1) := by decide +kernel
theorem dX7_leastMinutes_24 : decode cX7_leastMinutes 24 = .ok (.istore_n 1, 1) := by decide +kernel
theorem dX7_leastMinutes_25 : decode cX7_leastMinutes 25 = .ok (.iload_n 1, 1) := by decide +kernel
theorem dX7_leastMinutes_26 : decode cX7_leastMinutes 26 = .ok (.aload_n 0, 1) := by decide +kernel
theorem dX7_leastMinutes_27 : decode cX7_leastMinutes 27 = .ok (.invokevirtual 36, 3) := by decide +kernel
theorem dX7_leastMinutes_30 : decode cX7_leastMinutes 30 = .ok (.if_icmp .ge 51, 3) := by decide +kernel
theorem dX7_leastMinutes_33 : decode cX7_leastMinutes 33 = .ok (.aload_n 0, 1) := by decide +kernel
theorem dX7_leastMinutes_34 : decode cX7_leastMinutes 34 = .ok (.getfield 25, 3) := by decide +kernel
theorem dX7_leastMinutes_37 : decode cX7_leastMinutes 37 = .ok (.iload_n 1, 1) := by decide +kernel
theorem dX7_leastMinutes_38 : decode cX7_leastMinutes 38 = .ok (.baload, 1) := by decide +kernel
theorem dX7_leastMinutes_39 : decode cX7_leastMinutes 39 = .ok (.bipush 100, 2) := by decide +kernel
theorem dX7_leastMinutes_41 : decode cX7_leastMinutes 41 = .ok (.if_icmp .eq 34, 3) := by decide +kernel
theorem dX7_leastMinutes_44 : decode cX7_leastMinutes 44 = .ok (.aload_n 0, 1) := by decide +kernel
theorem dX7_leastMinutes_45 : decode cX7_leastMinutes 45 = .ok (.iload_n 1, 1) := by decide +kernel
theorem dX7_leastMinutes_46 : decode cX7_leastMinutes 46 = .ok (.invokevirtual 40, 3) := by decide +kernel
theorem dX7_leastMinutes_49 : decode cX7_leastMinutes 49 = .ok (.istore_n 2, 1) := by decide +kernel
theorem dX7_leastMinutes_50 : decode cX7_leastMinutes 50 = .ok (.aload_n 0, 1) := by decide +kernel
theorem dX7_leastMinutes_51 : decode cX7_leastMinutes 51 = .ok (.iload_n 1, 1) := by decide +kernel
theorem dX7_leastMinutes_52 : decode cX7_leastMinutes 52 = .ok (.iload_n 2, 1) := by decide +kernel
theorem dX7_leastMinutes_53 : decode cX7_leastMinutes 53 = .ok (.aload_n 0, 1) := by decide +kernel
theorem dX7_leastMinutes_54 : decode cX7_leastMinutes 54 = .ok (.getfield 9, 3) := by decide +kernel
theorem dX7_leastMinutes_57 : decode cX7_leastMinutes 57 = .ok (.iload_n 2, 1) := by decide +kernel
theorem dX7_leastMinutes_58 : decode cX7_leastMinutes 58 = .ok (.invokestatic 58, 3) := by decide +kernel
theorem dX7_leastMinutes_61 : decode cX7_leastMinutes 61 = .ok (.invokestatic 61, 3) := by decide +kernel
theorem dX7_leastMinutes_64 : decode cX7_leastMinutes 64 = .ok (.aload_n 0, 1) := by decide +kernel
theorem dX7_leastMinutes_65 : decode cX7_leastMinutes 65 = .ok (.getfield 25, 3) := by decide +kernel
theorem dX7_leastMinutes_68 : decode cX7_leastMinutes 68 = .ok (.iload_n 1, 1) := by decide +kernel
theorem dX7_leastMinutes_69 : decode cX7_leastMinutes 69 = .ok (.baload, 1) := by decide +kernel
theorem dX7_leastMinutes_70 : decode cX7_leastMinutes 70 = .ok (.iconst 1, 1) := by decide +kernel
theorem dX7_leastMinutes_71 : decode cX7_leastMinutes 71 = .ok (.iadd, 1) := by decide +kernel
theorem dX7_leastMinutes_72 : decode cX7_leastMinutes 72 = .ok (.invokevirtual 67, 3) := by decide +kernel
theorem dX7_leastMinutes_75 : decode cX7_leastMinutes 75 = .ok (.iinc 1 1, 3) := by decide +kernel
theorem dX7_leastMinutes_78 : decode cX7_leastMinutes 78 = .ok (.goto (-53), 3) := by decide +kernel
theorem dX7_leastMinutes_81 : decode cX7_leastMinutes 81 = .ok (.aload_n 0, 1) := by decide +kernel
theorem dX7_leastMinutes_82 : decode cX7_leastMinutes 82 = .ok (.getfield 25, 3) := by decide +kernel
theorem dX7_leastMinutes_85 : decode cX7_leastMinutes 85 = .ok (.aload_n 0, 1) := by decide +kernel
theorem dX7_leastMinutes_86 : decode cX7_leastMinutes 86 = .ok (.invokevirtual 36, 3) := by decide +kernel
theorem dX7_leastMinutes_89 : decode cX7_leastMinutes 89 = .ok (.baload, 1) := by decide +kernel
theorem dX7_leastMinutes_90 : decode cX7_leastMinutes 90 = .ok (.ireturn, 1) := by decide +kernel
theorem dX7_takeFrom_0 : decode cX7_takeFrom 0 = .ok (.iload_n 3, 1) := by decide +kernel
theorem dX7_takeFrom_1 : decode cX7_takeFrom 1 = .ok (.ifCond .gt 22, 3) := by decide +kernel
theorem dX7_takeFrom_4 : decode cX7_takeFrom 4 = .ok (.aload_n 0, 1) := by decide +kernel
theorem dX7_takeFrom_5 : decode cX7_takeFrom 5 = .ok (.getfield 25, 3) := by decide +kernel
theorem dX7_takeFrom_8 : decode cX7_takeFrom 8 = .ok (.iload_n 1, 1) := by decide +kernel
theorem dX7_takeFrom_9 : decode cX7_takeFrom 9 = .ok (.aload_n 0, 1) := by decide +kernel
theorem dX7_takeFrom_10 : decode cX7_takeFrom 10 = .ok (.getfield 25, 3) := by decide +kernel
theorem dX7_takeFrom_13 : decode cX7_takeFrom 13 = .ok (.iload_n 1, 1) := by decide +kernel
theorem dX7_takeFrom_14 : decode cX7_takeFrom 14 = .ok (.baload, 1) := by decide +kernel
theorem dX7_takeFrom_15 : decode cX7_takeFrom 15 = .ok (.iload 4, 2) := by decide +kernel
theorem dX7_takeFrom_17 : decode cX7_takeFrom 17 = .ok (.invokestatic 61, 3) := by decide +kernel
theorem dX7_takeFrom_20 : decode cX7_takeFrom 20 = .ok (.i2b, 1) := by decide +kernel
theorem dX7_takeFrom_21 : decode cX7_takeFrom 21 = .ok (.bastore, 1) := by decide +kernel
theorem dX7_takeFrom_22 : decode cX7_takeFrom 22 = .ok (.return_, 1) := by decide +kernel
theorem dX7_takeFrom_23 : decode cX7_takeFrom 23 = .ok (.iload_n 2, 1) := by decide +kernel
theorem dX7_takeFrom_24 : decode cX7_takeFrom 24 = .ok (.istore 5, 2) := by decide +kernel
theorem dX7_takeFrom_26 : decode cX7_takeFrom 26 = .ok (.iconst 0, 1) := by decide +kernel
theorem dX7_takeFrom_27 : decode cX7_takeFrom 27 = .ok (.istore 6, 2) := by decide +kernel
theorem dX7_takeFrom_29 : decode cX7_takeFrom 29 = .ok (.iload 6, 2) := by decide +kernel
theorem dX7_takeFrom_31 : decode cX7_takeFrom 31 = .ok (.aload_n 0, 1) := by decide +kernel
theorem dX7_takeFrom_32 : decode cX7_takeFrom 32 = .ok (.getfield 29, 3) := by decide +kernel
theorem dX7_takeFrom_35 : decode cX7_takeFrom 35 = .ok (.if_icmp .ge 47, 3) := by decide +kernel
theorem dX7_takeFrom_38 : decode cX7_takeFrom 38 = .ok (.iload 5, 2) := by decide +kernel
theorem dX7_takeFrom_40 : decode cX7_takeFrom 40 = .ok (.iload 6, 2) := by decide +kernel
theorem dX7_takeFrom_42 : decode cX7_takeFrom 42 = .ok (.invokestatic 32, 3) := by decide +kernel
theorem dX7_takeFrom_45 : decode cX7_takeFrom 45 = .ok (.ifCond .eq 31, 3) := by decide +kernel
theorem dX7_takeFrom_48 : decode cX7_takeFrom 48 = .ok (.iload 5, 2) := by decide +kernel
theorem dX7_takeFrom_50 : decode cX7_takeFrom 50 = .ok (.iconst 1, 1) := by decide +kernel
theorem dX7_takeFrom_51 : decode cX7_takeFrom 51 = .ok (.iload 6, 2) := by decide +kernel
theorem dX7_takeFrom_53 : decode cX7_takeFrom 53 = .ok (.ishl, 1) := by decide +kernel
theorem dX7_takeFrom_54 : decode cX7_takeFrom 54 = .ok (.iconst (-1), 1) := by decide +kernel
theorem dX7_takeFrom_55 : decode cX7_takeFrom 55 = .ok (.ixor, 1) := by decide +kernel
theorem dX7_takeFrom_56 : decode cX7_takeFrom 56 = .ok (.iand, 1) := by decide +kernel
theorem dX7_takeFrom_57 : decode cX7_takeFrom 57 = .ok (.istore 5, 2) := by decide +kernel
theorem dX7_takeFrom_59 : decode cX7_takeFrom 59 = .ok (.aload_n 0, 1) := by decide +kernel
theorem dX7_takeFrom_60 : decode cX7_takeFrom 60 = .ok (.iload_n 1, 1) := by decide +kernel
theorem dX7_takeFrom_61 : decode cX7_takeFrom 61 = .ok (.iconst 1, 1) := by decide +kernel
theorem dX7_takeFrom_62 : decode cX7_takeFrom 62 = .ok (.iload 6, 2) := by decide +kernel
theorem dX7_takeFrom_64 : decode cX7_takeFrom 64 = .ok (.ishl, 1) := by decide +kernel
theorem dX7_takeFrom_65 : decode cX7_takeFrom 65 = .ok (.ior, 1) := by decide +kernel
theorem dX7_takeFrom_66 : decode cX7_takeFrom 66 = .ok (.iload 5, 2) := by decide +kernel
theorem dX7_takeFrom_68 : decode cX7_takeFrom 68 = .ok (.iload_n 3, 1) := by decide +kernel
theorem dX7_takeFrom_69 : decode cX7_takeFrom 69 = .ok (.iconst 1, 1) := by decide +kernel
theorem dX7_takeFrom_70 : decode cX7_takeFrom 70 = .ok (.isub, 1) := by decide +kernel
theorem dX7_takeFrom_71 : decode cX7_takeFrom 71 = .ok (.iload 4, 2) := by decide +kernel
theorem dX7_takeFrom_73 : decode cX7_takeFrom 73 = .ok (.invokevirtual 67, 3) := by decide +kernel
theorem dX7_takeFrom_76 : decode cX7_takeFrom 76 = .ok (.iinc 6 1, 3) := by decide +kernel
theorem dX7_takeFrom_79 : decode cX7_takeFrom 79 = .ok (.goto (-50), 3) := by decide +kernel
theorem dX7_takeFrom_82 : decode cX7_takeFrom 82 = .ok (.return_, 1) := by decide +kernel
theorem dX7_notSooner_0 : decode cX7_notSooner 0 = .ok (.iconst 0, 1) := by decide +kernel
theorem dX7_notSooner_1 : decode cX7_notSooner 1 = .ok (.istore_n 1, 1) := by decide +kernel
theorem dX7_notSooner_2 : decode cX7_notSooner 2 = .ok (.iconst 1, 1) := by decide +kernel
theorem dX7_notSooner_3 : decode cX7_notSooner 3 = .ok (.istore_n 2, 1) := by decide +kernel
theorem dX7_notSooner_4 : decode cX7_notSooner 4 = .ok (.iload_n 2, 1) := by decide +kernel
theorem dX7_notSooner_5 : decode cX7_notSooner 5 = .ok (.aload_n 0, 1) := by decide +kernel
theorem dX7_notSooner_6 : decode cX7_notSooner 6 = .ok (.getfield 29, 3) := by decide +kernel
theorem dX7_notSooner_9 : decode cX7_notSooner 9 = .ok (.if_icmp .gt 33, 3) := by decide +kernel
theorem dX7_notSooner_12 : decode cX7_notSooner 12 = .ok (.aload_n 0, 1) := by decide +kernel
theorem dX7_notSooner_13 : decode cX7_notSooner 13 = .ok (.iload_n 2, 1) := by decide +kernel
theorem dX7_notSooner_14 : decode cX7_notSooner 14 = .ok (.invokevirtual 71, 3) := by decide +kernel
theorem dX7_notSooner_17 : decode cX7_notSooner 17 = .ok (.istore_n 3, 1) := by decide +kernel
theorem dX7_notSooner_18 : decode cX7_notSooner 18 = .ok (.iload_n 3, 1) := by decide +kernel
theorem dX7_notSooner_19 : decode cX7_notSooner 19 = .ok (.ifCond .le 17, 3) := by decide +kernel
theorem dX7_notSooner_22 : decode cX7_notSooner 22 = .ok (.iload_n 1, 1) := by decide +kernel
theorem dX7_notSooner_23 : decode cX7_notSooner 23 = .ok (.iload_n 2, 1) := by decide +kernel
theorem dX7_notSooner_24 : decode cX7_notSooner 24 = .ok (.iconst 1, 1) := by decide +kernel
theorem dX7_notSooner_25 : decode cX7_notSooner 25 = .ok (.isub, 1) := by decide +kernel
theorem dX7_notSooner_26 : decode cX7_notSooner 26 = .ok (.aload_n 0, 1) := by decide +kernel
theorem dX7_notSooner_27 : decode cX7_notSooner 27 = .ok (.iload_n 3, 1) := by decide +kernel
theorem dX7_notSooner_28 : decode cX7_notSooner 28 = .ok (.invokevirtual 74, 3) := by decide +kernel
theorem dX7_notSooner_31 : decode cX7_notSooner 31 = .ok (.iadd, 1) := by decide +kernel
theorem dX7_notSooner_32 : decode cX7_notSooner 32 = .ok (.invokestatic 77, 3) := by decide +kernel
theorem dX7_notSooner_35 : decode cX7_notSooner 35 = .ok (.istore_n 1, 1) := by decide +kernel
theorem dX7_notSooner_36 : decode cX7_notSooner 36 = .ok (.iinc 2 1, 3) := by decide +kernel
theorem dX7_notSooner_39 : decode cX7_notSooner 39 = .ok (.goto (-35), 3) := by decide +kernel
theorem dX7_notSooner_42 : decode cX7_notSooner 42 = .ok (.iload_n 1, 1) := by decide +kernel
theorem dX7_notSooner_43 : decode cX7_notSooner 43 = .ok (.ireturn, 1) := by decide +kernel
theorem dX7_atOrAbove_0 : decode cX7_atOrAbove 0 = .ok (.iconst 0, 1) := by decide +kernel
theorem dX7_atOrAbove_1 : decode cX7_atOrAbove 1 = .ok (.istore_n 2, 1) := by decide +kernel
theorem dX7_atOrAbove_2 : decode cX7_atOrAbove 2 = .ok (.iconst 0, 1) := by decide +kernel
theorem dX7_atOrAbove_3 : decode cX7_atOrAbove 3 = .ok (.istore_n 3, 1) := by decide +kernel
theorem dX7_atOrAbove_4 : decode cX7_atOrAbove 4 = .ok (.iload_n 3, 1) := by decide +kernel
theorem dX7_atOrAbove_5 : decode cX7_atOrAbove 5 = .ok (.aload_n 0, 1) := by decide +kernel
theorem dX7_atOrAbove_6 : decode cX7_atOrAbove 6 = .ok (.getfield 29, 3) := by decide +kernel
theorem dX7_atOrAbove_9 : decode cX7_atOrAbove 9 = .ok (.if_icmp .ge 22, 3) := by decide +kernel
theorem dX7_atOrAbove_12 : decode cX7_atOrAbove 12 = .ok (.aload_n 0, 1) := by decide +kernel
theorem dX7_atOrAbove_13 : decode cX7_atOrAbove 13 = .ok (.getfield 22, 3) := by decide +kernel
theorem dX7_atOrAbove_16 : decode cX7_atOrAbove 16 = .ok (.iload_n 3, 1) := by decide +kernel
theorem dX7_atOrAbove_17 : decode cX7_atOrAbove 17 = .ok (.iaload, 1) := by decide +kernel
theorem dX7_atOrAbove_18 : decode cX7_atOrAbove 18 = .ok (.iload_n 1, 1) := by decide +kernel
theorem dX7_atOrAbove_19 : decode cX7_atOrAbove 19 = .ok (.if_icmp .lt 6, 3) := by decide +kernel
theorem dX7_atOrAbove_22 : decode cX7_atOrAbove 22 = .ok (.iinc 2 1, 3) := by decide +kernel
theorem dX7_atOrAbove_25 : decode cX7_atOrAbove 25 = .ok (.iinc 3 1, 3) := by decide +kernel
theorem dX7_atOrAbove_28 : decode cX7_atOrAbove 28 = .ok (.goto (-24), 3) := by decide +kernel
theorem dX7_atOrAbove_31 : decode cX7_atOrAbove 31 = .ok (.iload_n 2, 1) := by decide +kernel
theorem dX7_atOrAbove_32 : decode cX7_atOrAbove 32 = .ok (.ireturn, 1) := by decide +kernel
theorem dX7_cutUp_0 : decode cX7_cutUp 0 = .ok (.aload_n 0, 1) := by decide +kernel
theorem dX7_cutUp_1 : decode cX7_cutUp 1 = .ok (.getfield 9, 3) := by decide +kernel
theorem dX7_cutUp_4 : decode cX7_cutUp 4 = .ok (.iconst 1, 1) := by decide +kernel
theorem dX7_cutUp_5 : decode cX7_cutUp 5 = .ok (.if_icmp .ge 7, 3) := by decide +kernel
theorem dX7_cutUp_8 : decode cX7_cutUp 8 = .ok (.iload_n 1, 1) := by decide +kernel
theorem dX7_cutUp_9 : decode cX7_cutUp 9 = .ok (.goto 16, 3) := by decide +kernel
theorem dX7_cutUp_12 : decode cX7_cutUp 12 = .ok (.iload_n 1, 1) := by decide +kernel
theorem dX7_cutUp_13 : decode cX7_cutUp 13 = .ok (.aload_n 0, 1) := by decide +kernel
theorem dX7_cutUp_14 : decode cX7_cutUp 14 = .ok (.getfield 9, 3) := by decide +kernel
theorem dX7_cutUp_17 : decode cX7_cutUp 17 = .ok (.iadd, 1) := by decide +kernel
theorem dX7_cutUp_18 : decode cX7_cutUp 18 = .ok (.iconst 1, 1) := by decide +kernel
theorem dX7_cutUp_19 : decode cX7_cutUp 19 = .ok (.isub, 1) := by decide +kernel
theorem dX7_cutUp_20 : decode cX7_cutUp 20 = .ok (.aload_n 0, 1) := by decide +kernel
theorem dX7_cutUp_21 : decode cX7_cutUp 21 = .ok (.getfield 9, 3) := by decide +kernel
theorem dX7_cutUp_24 : decode cX7_cutUp 24 = .ok (.idiv, 1) := by decide +kernel
theorem dX7_cutUp_25 : decode cX7_cutUp 25 = .ok (.ireturn, 1) := by decide +kernel
theorem dX7_foldInto_0 : decode cX7_foldInto 0 = .ok (.iconst 0, 1) := by decide +kernel
theorem dX7_foldInto_1 : decode cX7_foldInto 1 = .ok (.istore_n 3, 1) := by decide +kernel
theorem dX7_foldInto_2 : decode cX7_foldInto 2 = .ok (.iload_n 3, 1) := by decide +kernel
theorem dX7_foldInto_3 : decode cX7_foldInto 3 = .ok (.aload_n 0, 1) := by decide +kernel
theorem dX7_foldInto_4 : decode cX7_foldInto 4 = .ok (.getfield 29, 3) := by decide +kernel
theorem dX7_foldInto_7 : decode cX7_foldInto 7 = .ok (.if_icmp .ge 20, 3) := by decide +kernel
theorem dX7_foldInto_10 : decode cX7_foldInto 10 = .ok (.lload_n 1, 1) := by decide +kernel
theorem dX7_foldInto_11 : decode cX7_foldInto 11 = .ok (.aload_n 0, 1) := by decide +kernel
theorem dX7_foldInto_12 : decode cX7_foldInto 12 = .ok (.getfield 19, 3) := by decide +kernel
theorem dX7_foldInto_15 : decode cX7_foldInto 15 = .ok (.iload_n 3, 1) := by decide +kernel
theorem dX7_foldInto_16 : decode cX7_foldInto 16 = .ok (.iaload, 1) := by decide +kernel
theorem dX7_foldInto_17 : decode cX7_foldInto 17 = .ok (.invokestatic 80, 3) := by decide +kernel
theorem dX7_foldInto_20 : decode cX7_foldInto 20 = .ok (.lstore_n 1, 1) := by decide +kernel
theorem dX7_foldInto_21 : decode cX7_foldInto 21 = .ok (.iinc 3 1, 3) := by decide +kernel
theorem dX7_foldInto_24 : decode cX7_foldInto 24 = .ok (.goto (-22), 3) := by decide +kernel
theorem dX7_foldInto_27 : decode cX7_foldInto 27 = .ok (.lload_n 1, 1) := by decide +kernel
theorem dX7_foldInto_28 : decode cX7_foldInto 28 = .ok (.aload_n 0, 1) := by decide +kernel
theorem dX7_foldInto_29 : decode cX7_foldInto 29 = .ok (.getfield 9, 3) := by decide +kernel
theorem dX7_foldInto_32 : decode cX7_foldInto 32 = .ok (.invokestatic 80, 3) := by decide +kernel
theorem dX7_foldInto_35 : decode cX7_foldInto 35 = .ok (.lreturn, 1) := by decide +kernel
theorem dX8_init_0 : decode cX8_init 0 = .ok (.aload_n 0, 1) := by decide +kernel
theorem dX8_init_1 : decode cX8_init 1 = .ok (.invokespecial 3, 3) := by decide +kernel
theorem dX8_init_4 : decode cX8_init 4 = .ok (.aload_n 0, 1) := by decide +kernel
theorem dX8_init_5 : decode cX8_init 5 = .ok (.iconst 2, 1) := by decide +kernel
theorem dX8_init_6 : decode cX8_init 6 = .ok (.newarray .int, 2) := by decide +kernel
theorem dX8_init_8 : decode cX8_init 8 = .ok (.putfield 9, 3) := by decide +kernel
theorem dX8_init_11 : decode cX8_init 11 = .ok (.aload_n 0, 1) := by decide +kernel
theorem dX8_init_12 : decode cX8_init 12 = .ok (.iconst 2, 1) := by decide +kernel
theorem dX8_init_13 : decode cX8_init 13 = .ok (.bipush 6, 2) := by decide +kernel
theorem dX8_init_15 : decode cX8_init 15 = .ok (.multianewarray 15 2, 4) := by decide +kernel
theorem dX8_init_19 : decode cX8_init 19 = .ok (.putfield 17, 3) := by decide +kernel
theorem dX8_init_22 : decode cX8_init 22 = .ok (.aload_n 0, 1) := by decide +kernel
theorem dX8_init_23 : decode cX8_init 23 = .ok (.iconst 2, 1) := by decide +kernel
theorem dX8_init_24 : decode cX8_init 24 = .ok (.bipush 6, 2) := by decide +kernel
theorem dX8_init_26 : decode cX8_init 26 = .ok (.multianewarray 15 2, 4) := by decide +kernel
theorem dX8_init_30 : decode cX8_init 30 = .ok (.putfield 20, 3) := by decide +kernel
theorem dX8_init_33 : decode cX8_init 33 = .ok (.aload_n 0, 1) := by decide +kernel
theorem dX8_init_34 : decode cX8_init 34 = .ok (.iconst 2, 1) := by decide +kernel
theorem dX8_init_35 : decode cX8_init 35 = .ok (.bipush 120, 2) := by decide +kernel
theorem dX8_init_37 : decode cX8_init 37 = .ok (.multianewarray 15 2, 4) := by decide +kernel
theorem dX8_init_41 : decode cX8_init 41 = .ok (.putfield 23, 3) := by decide +kernel
theorem dX8_init_44 : decode cX8_init 44 = .ok (.aload_n 0, 1) := by decide +kernel
theorem dX8_init_45 : decode cX8_init 45 = .ok (.iconst 2, 1) := by decide +kernel
theorem dX8_init_46 : decode cX8_init 46 = .ok (.bipush 121, 2) := by decide +kernel
theorem dX8_init_48 : decode cX8_init 48 = .ok (.multianewarray 15 2, 4) := by decide +kernel
theorem dX8_init_52 : decode cX8_init 52 = .ok (.putfield 26, 3) := by decide +kernel
theorem dX8_init_55 : decode cX8_init 55 = .ok (.aload_n 0, 1) := by decide +kernel
theorem dX8_init_56 : decode cX8_init 56 = .ok (.iconst 2, 1) := by decide +kernel
theorem dX8_init_57 : decode cX8_init 57 = .ok (.bipush 121, 2) := by decide +kernel
theorem dX8_init_59 : decode cX8_init 59 = .ok (.multianewarray 15 2, 4) := by decide +kernel
theorem dX8_init_63 : decode cX8_init 63 = .ok (.putfield 29, 3) := by decide +kernel
theorem dX8_init_66 : decode cX8_init 66 = .ok (.return_, 1) := by decide +kernel
theorem dX8_add_0 : decode cX8_add 0 = .ok (.aload_n 0, 1) := by decide +kernel
theorem dX8_add_1 : decode cX8_add 1 = .ok (.getfield 9, 3) := by decide +kernel
theorem dX8_add_4 : decode cX8_add 4 = .ok (.iload_n 1, 1) := by decide +kernel
theorem dX8_add_5 : decode cX8_add 5 = .ok (.iaload, 1) := by decide +kernel
theorem dX8_add_6 : decode cX8_add 6 = .ok (.istore 4, 2) := by decide +kernel
theorem dX8_add_8 : decode cX8_add 8 = .ok (.aload_n 0, 1) := by decide +kernel
theorem dX8_add_9 : decode cX8_add 9 = .ok (.getfield 17, 3) := by decide +kernel
theorem dX8_add_12 : decode cX8_add 12 = .ok (.iload_n 1, 1) := by decide +kernel
theorem dX8_add_13 : decode cX8_add 13 = .ok (.aaload, 1) := by decide +kernel
theorem dX8_add_14 : decode cX8_add 14 = .ok (.iload 4, 2) := by decide +kernel
theorem dX8_add_16 : decode cX8_add 16 = .ok (.iload_n 2, 1) := by decide +kernel
theorem dX8_add_17 : decode cX8_add 17 = .ok (.iastore, 1) := by decide +kernel
theorem dX8_add_18 : decode cX8_add 18 = .ok (.aload_n 0, 1) := by decide +kernel
theorem dX8_add_19 : decode cX8_add 19 = .ok (.getfield 20, 3) := by decide +kernel
theorem dX8_add_22 : decode cX8_add 22 = .ok (.iload_n 1, 1) := by decide +kernel
theorem dX8_add_23 : decode cX8_add 23 = .ok (.aaload, 1) := by decide +kernel
theorem dX8_add_24 : decode cX8_add 24 = .ok (.iload 4, 2) := by decide +kernel
theorem dX8_add_26 : decode cX8_add 26 = .ok (.iload_n 3, 1) := by decide +kernel
theorem dX8_add_27 : decode cX8_add 27 = .ok (.iastore, 1) := by decide +kernel
theorem dX8_add_28 : decode cX8_add 28 = .ok (.aload_n 0, 1) := by decide +kernel
theorem dX8_add_29 : decode cX8_add 29 = .ok (.getfield 9, 3) := by decide +kernel
theorem dX8_add_32 : decode cX8_add 32 = .ok (.iload_n 1, 1) := by decide +kernel
theorem dX8_add_33 : decode cX8_add 33 = .ok (.dup2, 1) := by decide +kernel
theorem dX8_add_34 : decode cX8_add 34 = .ok (.iaload, 1) := by decide +kernel
theorem dX8_add_35 : decode cX8_add 35 = .ok (.iconst 1, 1) := by decide +kernel
theorem dX8_add_36 : decode cX8_add 36 = .ok (.iadd, 1) := by decide +kernel
theorem dX8_add_37 : decode cX8_add 37 = .ok (.iastore, 1) := by decide +kernel
theorem dX8_add_38 : decode cX8_add 38 = .ok (.aload_n 0, 1) := by decide +kernel
theorem dX8_add_39 : decode cX8_add 39 = .ok (.getfield 9, 3) := by decide +kernel
theorem dX8_add_42 : decode cX8_add 42 = .ok (.iload_n 1, 1) := by decide +kernel
theorem dX8_add_43 : decode cX8_add 43 = .ok (.iaload, 1) := by decide +kernel
theorem dX8_add_44 : decode cX8_add 44 = .ok (.ireturn, 1) := by decide +kernel
theorem dX8_empty_0 : decode cX8_empty 0 = .ok (.aload_n 0, 1) := by decide +kernel
theorem dX8_empty_1 : decode cX8_empty 1 = .ok (.getfield 9, 3) := by decide +kernel
theorem dX8_empty_4 : decode cX8_empty 4 = .ok (.iconst 0, 1) := by decide +kernel
theorem dX8_empty_5 : decode cX8_empty 5 = .ok (.iaload, 1) := by decide +kernel
theorem dX8_empty_6 : decode cX8_empty 6 = .ok (.aload_n 0, 1) := by decide +kernel
theorem dX8_empty_7 : decode cX8_empty 7 = .ok (.getfield 9, 3) := by decide +kernel
theorem dX8_empty_10 : decode cX8_empty 10 = .ok (.iconst 1, 1) := by decide +kernel
theorem dX8_empty_11 : decode cX8_empty 11 = .ok (.iaload, 1) := by decide +kernel
theorem dX8_empty_12 : decode cX8_empty 12 = .ok (.iadd, 1) := by decide +kernel
theorem dX8_empty_13 : decode cX8_empty 13 = .ok (.istore_n 1, 1) := by decide +kernel
theorem dX8_empty_14 : decode cX8_empty 14 = .ok (.aload_n 0, 1) := by decide +kernel
theorem dX8_empty_15 : decode cX8_empty 15 = .ok (.getfield 9, 3) := by decide +kernel
theorem dX8_empty_18 : decode cX8_empty 18 = .ok (.iconst 0, 1) := by decide +kernel
theorem dX8_empty_19 : decode cX8_empty 19 = .ok (.iconst 0, 1) := by decide +kernel
theorem dX8_empty_20 : decode cX8_empty 20 = .ok (.iastore, 1) := by decide +kernel
theorem dX8_empty_21 : decode cX8_empty 21 = .ok (.aload_n 0, 1) := by decide +kernel
theorem dX8_empty_22 : decode cX8_empty 22 = .ok (.getfield 9, 3) := by decide +kernel
theorem dX8_empty_25 : decode cX8_empty 25 = .ok (.iconst 1, 1) := by decide +kernel
theorem dX8_empty_26 : decode cX8_empty 26 = .ok (.iconst 0, 1) := by decide +kernel
theorem dX8_empty_27 : decode cX8_empty 27 = .ok (.iastore, 1) := by decide +kernel
theorem dX8_empty_28 : decode cX8_empty 28 = .ok (.iload_n 1, 1) := by decide +kernel
theorem dX8_empty_29 : decode cX8_empty 29 = .ok (.ireturn, 1) := by decide +kernel
theorem dX8_fewestMinutes_0 : decode cX8_fewestMinutes 0 = .ok (.aload_n 0, 1) := by decide +kernel
theorem dX8_fewestMinutes_1 : decode cX8_fewestMinutes 1 = .ok (.iconst 0, 1) := by decide +kernel
theorem dX8_fewestMinutes_2 : decode cX8_fewestMinutes 2 = .ok (.invokevirtual 32, 3) := by decide +kernel
theorem dX8_fewestMinutes_5 : decode cX8_fewestMinutes 5 = .ok (.istore_n 1, 1) := by decide +kernel
theorem dX8_fewestMinutes_6 : decode cX8_fewestMinutes 6 = .ok (.aload_n 0, 1) := by decide +kernel
theorem dX8_fewestMinutes_7 : decode cX8_fewestMinutes 7 = .ok (.iconst 1, 1) := by decide +kernel
theorem dX8_fewestMinutes_8 : decode cX8_fewestMinutes 8 = .ok (.invokevirtual 32, 3) := by decide +kernel
theorem dX8_fewestMinutes_11 : decode cX8_fewestMinutes 11 = .ok (.istore_n 2, 1) := by decide +kernel
theorem dX8_fewestMinutes_12 : decode cX8_fewestMinutes 12 = .ok (.iconst 0, 1) := by decide +kernel
theorem dX8_fewestMinutes_13 : decode cX8_fewestMinutes 13 = .ok (.istore_n 3, 1) := by decide +kernel
theorem dX8_fewestMinutes_14 : decode cX8_fewestMinutes 14 = .ok (.iload_n 3, 1) := by decide +kernel
theorem dX8_fewestMinutes_15 : decode cX8_fewestMinutes 15 = .ok (.iload_n 1, 1) := by decide +kernel
theorem dX8_fewestMinutes_16 : decode cX8_fewestMinutes 16 = .ok (.if_icmp .gt 42, 3) := by decide +kernel
theorem dX8_fewestMinutes_19 : decode cX8_fewestMinutes 19 = .ok (.iconst 0, 1) := by decide +kernel
theorem dX8_fewestMinutes_20 : decode cX8_fewestMinutes 20 = .ok (.istore 4, 2) := by decide +kernel
theorem dX8_fewestMinutes_22 : decode cX8_fewestMinutes 22 = .ok (.iload 4, 2) := by decide +kernel
theorem dX8_fewestMinutes_24 : decode cX8_fewestMinutes 24 = .ok (.iload_n 2, 1) := by decide +kernel
theorem dX8_fewestMinutes_25 : decode cX8_fewestMinutes 25 = .ok (.if_icmp .gt 27, 3) := by decide +kernel
theorem dX8_fewestMinutes_28 : decode cX8_fewestMinutes 28 = .ok (.aload_n 0, 1) := by decide +kernel
theorem dX8_fewestMinutes_29 : decode cX8_fewestMinutes 29 = .ok (.getfield 29, 3) := by decide +kernel
theorem dX8_fewestMinutes_32 : decode cX8_fewestMinutes 32 = .ok (.iload_n 3, 1) := by decide +kernel
theorem dX8_fewestMinutes_33 : decode cX8_fewestMinutes 33 = .ok (.iconst 1, 1) := by decide +kernel
theorem dX8_fewestMinutes_34 : decode cX8_fewestMinutes 34 = .ok (.iand, 1) := by decide +kernel
theorem dX8_fewestMinutes_35 : decode cX8_fewestMinutes 35 = .ok (.aaload, 1) := by decide +kernel
theorem dX8_fewestMinutes_36 : decode cX8_fewestMinutes 36 = .ok (.iload 4, 2) := by decide +kernel
theorem dX8_fewestMinutes_38 : decode cX8_fewestMinutes 38 = .ok (.aload_n 0, 1) := by decide +kernel
theorem dX8_fewestMinutes_39 : decode cX8_fewestMinutes 39 = .ok (.iload_n 3, 1) := by decide +kernel
theorem dX8_fewestMinutes_40 : decode cX8_fewestMinutes 40 = .ok (.iload 4, 2) := by decide +kernel
theorem dX8_fewestMinutes_42 : decode cX8_fewestMinutes 42 = .ok (.invokevirtual 36, 3) := by decide +kernel
theorem dX8_fewestMinutes_45 : decode cX8_fewestMinutes 45 = .ok (.iastore, 1) := by decide +kernel
theorem dX8_fewestMinutes_46 : decode cX8_fewestMinutes 46 = .ok (.iinc 4 1, 3) := by decide +kernel
theorem dX8_fewestMinutes_49 : decode cX8_fewestMinutes 49 = .ok (.goto (-27), 3) := by decide +kernel
theorem dX8_fewestMinutes_52 : decode cX8_fewestMinutes 52 = .ok (.iinc 3 1, 3) := by decide +kernel
theorem dX8_fewestMinutes_55 : decode cX8_fewestMinutes 55 = .ok (.goto (-41), 3) := by decide +kernel
theorem dX8_fewestMinutes_58 : decode cX8_fewestMinutes 58 = .ok (.aload_n 0, 1) := by decide +kernel
theorem dX8_fewestMinutes_59 : decode cX8_fewestMinutes 59 = .ok (.getfield 29, 3) := by decide +kernel
theorem dX8_fewestMinutes_62 : decode cX8_fewestMinutes 62 = .ok (.iload_n 1, 1) := by decide +kernel
theorem dX8_fewestMinutes_63 : decode cX8_fewestMinutes 63 = .ok (.iconst 1, 1) := by decide +kernel
theorem dX8_fewestMinutes_64 : decode cX8_fewestMinutes 64 = .ok (.iand, 1) := by decide +kernel
theorem dX8_fewestMinutes_65 : decode cX8_fewestMinutes 65 = .ok (.aaload, 1) := by decide +kernel
theorem dX8_fewestMinutes_66 : decode cX8_fewestMinutes 66 = .ok (.iload_n 2, 1) := by decide +kernel
theorem dX8_fewestMinutes_67 : decode cX8_fewestMinutes 67 = .ok (.iaload, 1) := by decide +kernel
theorem dX8_fewestMinutes_68 : decode cX8_fewestMinutes 68 = .ok (.ireturn, 1) := by decide +kernel
theorem dX8_layOut_0 : decode cX8_layOut 0 = .ok (.iconst 0, 1) := by decide +kernel
theorem dX8_layOut_1 : decode cX8_layOut 1 = .ok (.istore_n 2, 1) := by decide +kernel
theorem dX8_layOut_2 : decode cX8_layOut 2 = .ok (.aload_n 0, 1) := by decide +kernel
theorem dX8_layOut_3 : decode cX8_layOut 3 = .ok (.getfield 26, 3) := by decide +kernel
theorem dX8_layOut_6 : decode cX8_layOut 6 = .ok (.iload_n 1, 1) := by decide +kernel
theorem dX8_layOut_7 : decode cX8_layOut 7 = .ok (.aaload, 1) := by decide +kernel
theorem dX8_layOut_8 : decode cX8_layOut 8 = .ok (.iconst 0, 1) := by decide +kernel
theorem dX8_layOut_9 : decode cX8_layOut 9 = .ok (.iconst (-1), 1) := by decide +kernel
theorem dX8_layOut_10 : decode cX8_layOut 10 = .ok (.iastore, 1) := by decide +kernel
theorem dX8_layOut_11 : decode cX8_layOut 11 = .ok (.iconst 0, 1) := by decide +kernel
theorem dX8_layOut_12 : decode cX8_layOut 12 = .ok (.istore_n 3, 1) := by decide +kernel
theorem dX8_layOut_13 : decode cX8_layOut 13 = .ok (.iload_n 3, 1) := by decide +kernel
theorem dX8_layOut_14 : decode cX8_layOut 14 = .ok (.aload_n 0, 1) := by decide +kernel
theorem dX8_layOut_15 : decode cX8_layOut 15 = .ok (.getfield 9, 3) := by decide +kernel
theorem dX8_layOut_18 : decode cX8_layOut 18 = .ok (.iload_n 1, 1) := by decide +kernel
theorem dX8_layOut_19 : decode cX8_layOut 19 = .ok (.iaload, 1) := by decide +kernel
theorem dX8_layOut_20 : decode cX8_layOut 20 = .ok (.if_icmp .ge 75, 3) := by decide +kernel
theorem dX8_layOut_23 : decode cX8_layOut 23 = .ok (.iconst 0, 1) := by decide +kernel
theorem dX8_layOut_24 : decode cX8_layOut 24 = .ok (.istore 4, 2) := by decide +kernel
theorem dX8_layOut_26 : decode cX8_layOut 26 = .ok (.iload 4, 2) := by decide +kernel
theorem dX8_layOut_28 : decode cX8_layOut 28 = .ok (.aload_n 0, 1) := by decide +kernel
theorem dX8_layOut_29 : decode cX8_layOut 29 = .ok (.getfield 20, 3) := by decide +kernel
theorem dX8_layOut_32 : decode cX8_layOut 32 = .ok (.iload_n 1, 1) := by decide +kernel
theorem dX8_layOut_33 : decode cX8_layOut 33 = .ok (.aaload, 1) := by decide +kernel
theorem dX8_layOut_34 : decode cX8_layOut 34 = .ok (.iload_n 3, 1) := by decide +kernel
theorem dX8_layOut_35 : decode cX8_layOut 35 = .ok (.iaload, 1) := by decide +kernel
theorem dX8_layOut_36 : decode cX8_layOut 36 = .ok (.if_icmp .ge 44, 3) := by decide +kernel
theorem dX8_layOut_39 : decode cX8_layOut 39 = .ok (.aload_n 0, 1) := by decide +kernel
theorem dX8_layOut_40 : decode cX8_layOut 40 = .ok (.getfield 23, 3) := by decide +kernel
theorem dX8_layOut_43 : decode cX8_layOut 43 = .ok (.iload_n 1, 1) := by decide +kernel
theorem dX8_layOut_44 : decode cX8_layOut 44 = .ok (.aaload, 1) := by decide +kernel
theorem dX8_layOut_45 : decode cX8_layOut 45 = .ok (.iload_n 2, 1) := by decide +kernel
theorem dX8_layOut_46 : decode cX8_layOut 46 = .ok (.aload_n 0, 1) := by decide +kernel
theorem dX8_layOut_47 : decode cX8_layOut 47 = .ok (.getfield 17, 3) := by decide +kernel
theorem dX8_layOut_50 : decode cX8_layOut 50 = .ok (.iload_n 1, 1) := by decide +kernel
theorem dX8_layOut_51 : decode cX8_layOut 51 = .ok (.aaload, 1) := by decide +kernel
theorem dX8_layOut_52 : decode cX8_layOut 52 = .ok (.iload_n 3, 1) := by decide +kernel
theorem dX8_layOut_53 : decode cX8_layOut 53 = .ok (.iaload, 1) := by decide +kernel
theorem dX8_layOut_54 : decode cX8_layOut 54 = .ok (.iastore, 1) := by decide +kernel
theorem dX8_layOut_55 : decode cX8_layOut 55 = .ok (.iinc 2 1, 3) := by decide +kernel
theorem dX8_layOut_58 : decode cX8_layOut 58 = .ok (.aload_n 0, 1) := by decide +kernel
theorem dX8_layOut_59 : decode cX8_layOut 59 = .ok (.getfield 26, 3) := by decide +kernel
theorem dX8_layOut_62 : decode cX8_layOut 62 = .ok (.iload_n 1, 1) := by decide +kernel
theorem dX8_layOut_63 : decode cX8_layOut 63 = .ok (.aaload, 1) := by decide +kernel
theorem dX8_layOut_64 : decode cX8_layOut 64 = .ok (.iload_n 2, 1) := by decide +kernel
theorem dX8_layOut_65 : decode cX8_layOut 65 = .ok (.aload_n 0, 1) := by decide +kernel
theorem dX8_layOut_66 : decode cX8_layOut 66 = .ok (.getfield 17, 3) := by decide +kernel
theorem dX8_layOut_69 : decode cX8_layOut 69 = .ok (.iload_n 1, 1) := by decide +kernel
theorem dX8_layOut_70 : decode cX8_layOut 70 = .ok (.aaload, 1) := by decide +kernel
theorem dX8_layOut_71 : decode cX8_layOut 71 = .ok (.iload_n 3, 1) := by decide +kernel
theorem dX8_layOut_72 : decode cX8_layOut 72 = .ok (.iaload, 1) := by decide +kernel
theorem dX8_layOut_73 : decode cX8_layOut 73 = .ok (.iastore, 1) := by decide +kernel
theorem dX8_layOut_74 : decode cX8_layOut 74 = .ok (.iinc 4 1, 3) := by decide +kernel
theorem dX8_layOut_77 : decode cX8_layOut 77 = .ok (.goto (-51), 3) := by decide +kernel
theorem dX8_layOut_80 : decode cX8_layOut 80 = .ok (.aload_n 0, 1) := by decide +kernel
theorem dX8_layOut_81 : decode cX8_layOut 81 = .ok (.getfield 26, 3) := by decide +kernel
theorem dX8_layOut_84 : decode cX8_layOut 84 = .ok (.iload_n 1, 1) := by decide +kernel
theorem dX8_layOut_85 : decode cX8_layOut 85 = .ok (.aaload, 1) := by decide +kernel
theorem dX8_layOut_86 : decode cX8_layOut 86 = .ok (.iload_n 2, 1) := by decide +kernel
theorem dX8_layOut_87 : decode cX8_layOut 87 = .ok (.iconst (-1), 1) := by decide +kernel
theorem dX8_layOut_88 : decode cX8_layOut 88 = .ok (.iastore, 1) := by decide +kernel
theorem dX8_layOut_89 : decode cX8_layOut 89 = .ok (.iinc 3 1, 3) := by decide +kernel
theorem dX8_layOut_92 : decode cX8_layOut 92 = .ok (.goto (-79), 3) := by decide +kernel
theorem dX8_layOut_95 : decode cX8_layOut 95 = .ok (.iload_n 2, 1) := by decide +kernel
theorem dX8_layOut_96 : decode cX8_layOut 96 = .ok (.ireturn, 1) := by decide +kernel
theorem dX8_fewestTo_0 : decode cX8_fewestTo 0 = .ok (.iload_n 1, 1) := by decide +kernel
theorem dX8_fewestTo_1 : decode cX8_fewestTo 1 = .ok (.ifCond .ne 9, 3) := by decide +kernel
theorem dX8_fewestTo_4 : decode cX8_fewestTo 4 = .ok (.iload_n 2, 1) := by decide +kernel
theorem dX8_fewestTo_5 : decode cX8_fewestTo 5 = .ok (.ifCond .ne 5, 3) := by decide +kernel
theorem dX8_fewestTo_8 : decode cX8_fewestTo 8 = .ok (.iconst 0, 1) := by decide +kernel
theorem dX8_fewestTo_9 : decode cX8_fewestTo 9 = .ok (.ireturn, 1) := by decide +kernel
theorem dX8_fewestTo_10 : decode cX8_fewestTo 10 = .ok (.aload_n 0, 1) := by decide +kernel
theorem dX8_fewestTo_11 : decode cX8_fewestTo 11 = .ok (.getfield 29, 3) := by decide +kernel
theorem dX8_fewestTo_14 : decode cX8_fewestTo 14 = .ok (.iload_n 1, 1) := by decide +kernel
theorem dX8_fewestTo_15 : decode cX8_fewestTo 15 = .ok (.iconst 1, 1) := by decide +kernel
theorem dX8_fewestTo_16 : decode cX8_fewestTo 16 = .ok (.iand, 1) := by decide +kernel
theorem dX8_fewestTo_17 : decode cX8_fewestTo 17 = .ok (.aaload, 1) := by decide +kernel
theorem dX8_fewestTo_18 : decode cX8_fewestTo 18 = .ok (.astore_n 3, 1) := by decide +kernel
theorem dX8_fewestTo_19 : decode cX8_fewestTo 19 = .ok (.aload_n 0, 1) := by decide +kernel
theorem dX8_fewestTo_20 : decode cX8_fewestTo 20 = .ok (.getfield 29, 3) := by decide +kernel
theorem dX8_fewestTo_23 : decode cX8_fewestTo 23 = .ok (.iload_n 1, 1) := by decide +kernel
theorem dX8_fewestTo_24 : decode cX8_fewestTo 24 = .ok (.iconst 1, 1) := by decide +kernel
theorem dX8_fewestTo_25 : decode cX8_fewestTo 25 = .ok (.iadd, 1) := by decide +kernel
theorem dX8_fewestTo_26 : decode cX8_fewestTo 26 = .ok (.iconst 1, 1) := by decide +kernel
theorem dX8_fewestTo_27 : decode cX8_fewestTo 27 = .ok (.iand, 1) := by decide +kernel
theorem dX8_fewestTo_28 : decode cX8_fewestTo 28 = .ok (.aaload, 1) := by decide +kernel
theorem dX8_fewestTo_29 : decode cX8_fewestTo 29 = .ok (.astore 4, 2) := by decide +kernel
theorem dX8_fewestTo_31 : decode cX8_fewestTo 31 = .ok (.ldc 40, 2) := by decide +kernel
theorem dX8_fewestTo_33 : decode cX8_fewestTo 33 = .ok (.istore 5, 2) := by decide +kernel
theorem dX8_fewestTo_35 : decode cX8_fewestTo 35 = .ok (.iload_n 1, 1) := by decide +kernel
theorem dX8_fewestTo_36 : decode cX8_fewestTo 36 = .ok (.ifCond .le 37, 3) := by decide +kernel
theorem dX8_fewestTo_39 : decode cX8_fewestTo 39 = .ok (.aload_n 0, 1) := by decide +kernel
theorem dX8_fewestTo_40 : decode cX8_fewestTo 40 = .ok (.getfield 23, 3) := by decide +kernel
theorem dX8_fewestTo_43 : decode cX8_fewestTo 43 = .ok (.iconst 0, 1) := by decide +kernel
theorem dX8_fewestTo_44 : decode cX8_fewestTo 44 = .ok (.aaload, 1) := by decide +kernel
theorem dX8_fewestTo_45 : decode cX8_fewestTo 45 = .ok (.iload_n 1, 1) := by decide +kernel
theorem dX8_fewestTo_46 : decode cX8_fewestTo 46 = .ok (.iconst 1, 1) := by decide +kernel
theorem dX8_fewestTo_47 : decode cX8_fewestTo 47 = .ok (.isub, 1) := by decide +kernel
theorem dX8_fewestTo_48 : decode cX8_fewestTo 48 = .ok (.iaload, 1) := by decide +kernel
theorem dX8_fewestTo_49 : decode cX8_fewestTo 49 = .ok (.aload_n 0, 1) := by decide +kernel
theorem dX8_fewestTo_50 : decode cX8_fewestTo 50 = .ok (.getfield 26, 3) := by decide +kernel
theorem dX8_fewestTo_53 : decode cX8_fewestTo 53 = .ok (.iconst 1, 1) := by decide +kernel
theorem dX8_fewestTo_54 : decode cX8_fewestTo 54 = .ok (.aaload, 1) := by decide +kernel
theorem dX8_fewestTo_55 : decode cX8_fewestTo 55 = .ok (.iload_n 2, 1) := by decide +kernel
theorem dX8_fewestTo_56 : decode cX8_fewestTo 56 = .ok (.iaload, 1) := by decide +kernel
theorem dX8_fewestTo_57 : decode cX8_fewestTo 57 = .ok (.if_icmp .eq 16, 3) := by decide +kernel
theorem dX8_fewestTo_60 : decode cX8_fewestTo 60 = .ok (.iload 5, 2) := by decide +kernel
theorem dX8_fewestTo_62 : decode cX8_fewestTo 62 = .ok (.aload 4, 2) := by decide +kernel
theorem dX8_fewestTo_64 : decode cX8_fewestTo 64 = .ok (.iload_n 2, 1) := by decide +kernel
theorem dX8_fewestTo_65 : decode cX8_fewestTo 65 = .ok (.iaload, 1) := by decide +kernel
theorem dX8_fewestTo_66 : decode cX8_fewestTo 66 = .ok (.iconst 1, 1) := by decide +kernel
theorem dX8_fewestTo_67 : decode cX8_fewestTo 67 = .ok (.iadd, 1) := by decide +kernel
theorem dX8_fewestTo_68 : decode cX8_fewestTo 68 = .ok (.invokestatic 41, 3) := by decide +kernel
theorem dX8_fewestTo_71 : decode cX8_fewestTo 71 = .ok (.istore 5, 2) := by decide +kernel
theorem dX8_fewestTo_73 : decode cX8_fewestTo 73 = .ok (.iload_n 2, 1) := by decide +kernel
theorem dX8_fewestTo_74 : decode cX8_fewestTo 74 = .ok (.ifCond .le 38, 3) := by decide +kernel
theorem dX8_fewestTo_77 : decode cX8_fewestTo 77 = .ok (.aload_n 0, 1) := by decide +kernel
theorem dX8_fewestTo_78 : decode cX8_fewestTo 78 = .ok (.getfield 23, 3) := by decide +kernel
theorem dX8_fewestTo_81 : decode cX8_fewestTo 81 = .ok (.iconst 1, 1) := by decide +kernel
theorem dX8_fewestTo_82 : decode cX8_fewestTo 82 = .ok (.aaload, 1) := by decide +kernel
theorem dX8_fewestTo_83 : decode cX8_fewestTo 83 = .ok (.iload_n 2, 1) := by decide +kernel
theorem dX8_fewestTo_84 : decode cX8_fewestTo 84 = .ok (.iconst 1, 1) := by decide +kernel
theorem dX8_fewestTo_85 : decode cX8_fewestTo 85 = .ok (.isub, 1) := by decide +kernel
theorem dX8_fewestTo_86 : decode cX8_fewestTo 86 = .ok (.iaload, 1) := by decide +kernel
theorem dX8_fewestTo_87 : decode cX8_fewestTo 87 = .ok (.aload_n 0, 1) := by decide +kernel
theorem dX8_fewestTo_88 : decode cX8_fewestTo 88 = .ok (.getfield 26, 3) := by decide +kernel
theorem dX8_fewestTo_91 : decode cX8_fewestTo 91 = .ok (.iconst 0, 1) := by decide +kernel
theorem dX8_fewestTo_92 : decode cX8_fewestTo 92 = .ok (.aaload, 1) := by decide +kernel
theorem dX8_fewestTo_93 : decode cX8_fewestTo 93 = .ok (.iload_n 1, 1) := by decide +kernel
theorem dX8_fewestTo_94 : decode cX8_fewestTo 94 = .ok (.iaload, 1) := by decide +kernel
theorem dX8_fewestTo_95 : decode cX8_fewestTo 95 = .ok (.if_icmp .eq 17, 3) := by decide +kernel
theorem dX8_fewestTo_98 : decode cX8_fewestTo 98 = .ok (.iload 5, 2) := by decide +kernel
theorem dX8_fewestTo_100 : decode cX8_fewestTo 100 = .ok (.aload_n 3, 1) := by decide +kernel
theorem dX8_fewestTo_101 : decode cX8_fewestTo 101 = .ok (.iload_n 2, 1) := by decide +kernel
theorem dX8_fewestTo_102 : decode cX8_fewestTo 102 = .ok (.iconst 1, 1) := by decide +kernel
theorem dX8_fewestTo_103 : decode cX8_fewestTo 103 = .ok (.isub, 1) := by decide +kernel
theorem dX8_fewestTo_104 : decode cX8_fewestTo 104 = .ok (.iaload, 1) := by decide +kernel
theorem dX8_fewestTo_105 : decode cX8_fewestTo 105 = .ok (.iconst 1, 1) := by decide +kernel
theorem dX8_fewestTo_106 : decode cX8_fewestTo 106 = .ok (.iadd, 1) := by decide +kernel
theorem dX8_fewestTo_107 : decode cX8_fewestTo 107 = .ok (.invokestatic 41, 3) := by decide +kernel
theorem dX8_fewestTo_110 : decode cX8_fewestTo 110 = .ok (.istore 5, 2) := by decide +kernel
theorem dX8_fewestTo_112 : decode cX8_fewestTo 112 = .ok (.iload_n 1, 1) := by decide +kernel
theorem dX8_fewestTo_113 : decode cX8_fewestTo 113 = .ok (.ifCond .le 45, 3) := by decide +kernel
theorem dX8_fewestTo_116 : decode cX8_fewestTo 116 = .ok (.iload_n 2, 1) := by decide +kernel
theorem dX8_fewestTo_117 : decode cX8_fewestTo 117 = .ok (.ifCond .le 41, 3) := by decide +kernel
theorem dX8_fewestTo_120 : decode cX8_fewestTo 120 = .ok (.aload_n 0, 1) := by decide +kernel
theorem dX8_fewestTo_121 : decode cX8_fewestTo 121 = .ok (.getfield 23, 3) := by decide +kernel
theorem dX8_fewestTo_124 : decode cX8_fewestTo 124 = .ok (.iconst 0, 1) := by decide +kernel
theorem dX8_fewestTo_125 : decode cX8_fewestTo 125 = .ok (.aaload, 1) := by decide +kernel
theorem dX8_fewestTo_126 : decode cX8_fewestTo 126 = .ok (.iload_n 1, 1) := by decide +kernel
theorem dX8_fewestTo_127 : decode cX8_fewestTo 127 = .ok (.iconst 1, 1) := by decide +kernel
theorem dX8_fewestTo_128 : decode cX8_fewestTo 128 = .ok (.isub, 1) := by decide +kernel
theorem dX8_fewestTo_129 : decode cX8_fewestTo 129 = .ok (.iaload, 1) := by decide +kernel
theorem dX8_fewestTo_130 : decode cX8_fewestTo 130 = .ok (.aload_n 0, 1) := by decide +kernel
theorem dX8_fewestTo_131 : decode cX8_fewestTo 131 = .ok (.getfield 23, 3) := by decide +kernel
theorem dX8_fewestTo_134 : decode cX8_fewestTo 134 = .ok (.iconst 1, 1) := by decide +kernel
theorem dX8_fewestTo_135 : decode cX8_fewestTo 135 = .ok (.aaload, 1) := by decide +kernel
theorem dX8_fewestTo_136 : decode cX8_fewestTo 136 = .ok (.iload_n 2, 1) := by decide +kernel
theorem dX8_fewestTo_137 : decode cX8_fewestTo 137 = .ok (.iconst 1, 1) := by decide +kernel
theorem dX8_fewestTo_138 : decode cX8_fewestTo 138 = .ok (.isub, 1) := by decide +kernel
theorem dX8_fewestTo_139 : decode cX8_fewestTo 139 = .ok (.iaload, 1) := by decide +kernel
theorem dX8_fewestTo_140 : decode cX8_fewestTo 140 = .ok (.if_icmp .eq 18, 3) := by decide +kernel
theorem dX8_fewestTo_143 : decode cX8_fewestTo 143 = .ok (.iload 5, 2) := by decide +kernel
theorem dX8_fewestTo_145 : decode cX8_fewestTo 145 = .ok (.aload 4, 2) := by decide +kernel
theorem dX8_fewestTo_147 : decode cX8_fewestTo 147 = .ok (.iload_n 2, 1) := by decide +kernel
theorem dX8_fewestTo_148 : decode cX8_fewestTo 148 = .ok (.iconst 1, 1) := by decide +kernel
theorem dX8_fewestTo_149 : decode cX8_fewestTo 149 = .ok (.isub, 1) := by decide +kernel
theorem dX8_fewestTo_150 : decode cX8_fewestTo 150 = .ok (.iaload, 1) := by decide +kernel
theorem dX8_fewestTo_151 : decode cX8_fewestTo 151 = .ok (.iconst 1, 1) := by decide +kernel
theorem dX8_fewestTo_152 : decode cX8_fewestTo 152 = .ok (.iadd, 1) := by decide +kernel
theorem dX8_fewestTo_153 : decode cX8_fewestTo 153 = .ok (.invokestatic 41, 3) := by decide +kernel
theorem dX8_fewestTo_156 : decode cX8_fewestTo 156 = .ok (.istore 5, 2) := by decide +kernel
theorem dX8_fewestTo_158 : decode cX8_fewestTo 158 = .ok (.iload 5, 2) := by decide +kernel
theorem dX8_fewestTo_160 : decode cX8_fewestTo 160 = .ok (.ireturn, 1) := by decide +kernel
theorem dX8_foldInto_0 : decode cX8_foldInto 0 = .ok (.iconst 0, 1) := by decide +kernel
theorem dX8_foldInto_1 : decode cX8_foldInto 1 = .ok (.istore_n 3, 1) := by decide +kernel
theorem dX8_foldInto_2 : decode cX8_foldInto 2 = .ok (.iload_n 3, 1) := by decide +kernel
theorem dX8_foldInto_3 : decode cX8_foldInto 3 = .ok (.iconst 2, 1) := by decide +kernel
theorem dX8_foldInto_4 : decode cX8_foldInto 4 = .ok (.if_icmp .ge 57, 3) := by decide +kernel
theorem dX8_foldInto_7 : decode cX8_foldInto 7 = .ok (.iconst 0, 1) := by decide +kernel
theorem dX8_foldInto_8 : decode cX8_foldInto 8 = .ok (.istore 4, 2) := by decide +kernel
theorem dX8_foldInto_10 : decode cX8_foldInto 10 = .ok (.iload 4, 2) := by decide +kernel
theorem dX8_foldInto_12 : decode cX8_foldInto 12 = .ok (.aload_n 0, 1) := by decide +kernel
theorem dX8_foldInto_13 : decode cX8_foldInto 13 = .ok (.getfield 9, 3) := by decide +kernel
theorem dX8_foldInto_16 : decode cX8_foldInto 16 = .ok (.iload_n 3, 1) := by decide +kernel
theorem dX8_foldInto_17 : decode cX8_foldInto 17 = .ok (.iaload, 1) := by decide +kernel
theorem dX8_foldInto_18 : decode cX8_foldInto 18 = .ok (.if_icmp .ge 37, 3) := by decide +kernel
theorem dX8_foldInto_21 : decode cX8_foldInto 21 = .ok (.lload_n 1, 1) := by decide +kernel
theorem dX8_foldInto_22 : decode cX8_foldInto 22 = .ok (.aload_n 0, 1) := by decide +kernel
theorem dX8_foldInto_23 : decode cX8_foldInto 23 = .ok (.getfield 17, 3) := by decide +kernel
theorem dX8_foldInto_26 : decode cX8_foldInto 26 = .ok (.iload_n 3, 1) := by decide +kernel
theorem dX8_foldInto_27 : decode cX8_foldInto 27 = .ok (.aaload, 1) := by decide +kernel
theorem dX8_foldInto_28 : decode cX8_foldInto 28 = .ok (.iload 4, 2) := by decide +kernel
theorem dX8_foldInto_30 : decode cX8_foldInto 30 = .ok (.iaload, 1) := by decide +kernel
theorem dX8_foldInto_31 : decode cX8_foldInto 31 = .ok (.invokestatic 46, 3) := by decide +kernel
theorem dX8_foldInto_34 : decode cX8_foldInto 34 = .ok (.lstore_n 1, 1) := by decide +kernel
theorem dX8_foldInto_35 : decode cX8_foldInto 35 = .ok (.lload_n 1, 1) := by decide +kernel
theorem dX8_foldInto_36 : decode cX8_foldInto 36 = .ok (.aload_n 0, 1) := by decide +kernel
theorem dX8_foldInto_37 : decode cX8_foldInto 37 = .ok (.getfield 20, 3) := by decide +kernel
theorem dX8_foldInto_40 : decode cX8_foldInto 40 = .ok (.iload_n 3, 1) := by decide +kernel
theorem dX8_foldInto_41 : decode cX8_foldInto 41 = .ok (.aaload, 1) := by decide +kernel
theorem dX8_foldInto_42 : decode cX8_foldInto 42 = .ok (.iload 4, 2) := by decide +kernel
theorem dX8_foldInto_44 : decode cX8_foldInto 44 = .ok (.iaload, 1) := by decide +kernel
theorem dX8_foldInto_45 : decode cX8_foldInto 45 = .ok (.invokestatic 46, 3) := by decide +kernel
theorem dX8_foldInto_48 : decode cX8_foldInto 48 = .ok (.lstore_n 1, 1) := by decide +kernel
theorem dX8_foldInto_49 : decode cX8_foldInto 49 = .ok (.iinc 4 1, 3) := by decide +kernel
theorem dX8_foldInto_52 : decode cX8_foldInto 52 = .ok (.goto (-42), 3) := by decide +kernel
theorem dX8_foldInto_55 : decode cX8_foldInto 55 = .ok (.iinc 3 1, 3) := by decide +kernel
theorem dX8_foldInto_58 : decode cX8_foldInto 58 = .ok (.goto (-56), 3) := by decide +kernel
theorem dX8_foldInto_61 : decode cX8_foldInto 61 = .ok (.lload_n 1, 1) := by decide +kernel
theorem dX8_foldInto_62 : decode cX8_foldInto 62 = .ok (.lreturn, 1) := by decide +kernel
theorem dX9_init_0 : decode cX9_init 0 = .ok (.aload_n 0, 1) := by decide +kernel
theorem dX9_init_1 : decode cX9_init 1 = .ok (.invokespecial 3, 3) := by decide +kernel
theorem dX9_init_4 : decode cX9_init 4 = .ok (.aload_n 0, 1) := by decide +kernel
theorem dX9_init_5 : decode cX9_init 5 = .ok (.iconst 5, 1) := by decide +kernel
theorem dX9_init_6 : decode cX9_init 6 = .ok (.bipush 8, 2) := by decide +kernel
theorem dX9_init_8 : decode cX9_init 8 = .ok (.multianewarray 9 2, 4) := by decide +kernel
theorem dX9_init_12 : decode cX9_init 12 = .ok (.putfield 11, 3) := by decide +kernel
theorem dX9_init_15 : decode cX9_init 15 = .ok (.aload_n 0, 1) := by decide +kernel
theorem dX9_init_16 : decode cX9_init 16 = .ok (.bipush 8, 2) := by decide +kernel
theorem dX9_init_18 : decode cX9_init 18 = .ok (.newarray .int, 2) := by decide +kernel
theorem dX9_init_20 : decode cX9_init 20 = .ok (.putfield 16, 3) := by decide +kernel
theorem dX9_init_23 : decode cX9_init 23 = .ok (.aload_n 0, 1) := by decide +kernel
theorem dX9_init_24 : decode cX9_init 24 = .ok (.iconst 3, 1) := by decide +kernel
theorem dX9_init_25 : decode cX9_init 25 = .ok (.iconst 3, 1) := by decide +kernel
theorem dX9_init_26 : decode cX9_init 26 = .ok (.multianewarray 9 2, 4) := by decide +kernel
theorem dX9_init_30 : decode cX9_init 30 = .ok (.putfield 20, 3) := by decide +kernel
theorem dX9_init_33 : decode cX9_init 33 = .ok (.aload_n 0, 1) := by decide +kernel
theorem dX9_init_34 : decode cX9_init 34 = .ok (.bipush 8, 2) := by decide +kernel
theorem dX9_init_36 : decode cX9_init 36 = .ok (.iconst 4, 1) := by decide +kernel
theorem dX9_init_37 : decode cX9_init 37 = .ok (.multianewarray 9 2, 4) := by decide +kernel
theorem dX9_init_41 : decode cX9_init 41 = .ok (.putfield 23, 3) := by decide +kernel
theorem dX9_init_44 : decode cX9_init 44 = .ok (.return_, 1) := by decide +kernel
theorem dX9_add_0 : decode cX9_add 0 = .ok (.aload_n 0, 1) := by decide +kernel
theorem dX9_add_1 : decode cX9_add 1 = .ok (.getfield 26, 3) := by decide +kernel
theorem dX9_add_4 : decode cX9_add 4 = .ok (.istore_n 2, 1) := by decide +kernel
theorem dX9_add_5 : decode cX9_add 5 = .ok (.iconst 0, 1) := by decide +kernel
theorem dX9_add_6 : decode cX9_add 6 = .ok (.istore_n 3, 1) := by decide +kernel
theorem dX9_add_7 : decode cX9_add 7 = .ok (.iload_n 3, 1) := by decide +kernel
theorem dX9_add_8 : decode cX9_add 8 = .ok (.iconst 5, 1) := by decide +kernel
theorem dX9_add_9 : decode cX9_add 9 = .ok (.if_icmp .ge 22, 3) := by decide +kernel
theorem dX9_add_12 : decode cX9_add 12 = .ok (.aload_n 0, 1) := by decide +kernel
theorem dX9_add_13 : decode cX9_add 13 = .ok (.getfield 11, 3) := by decide +kernel
theorem dX9_add_16 : decode cX9_add 16 = .ok (.iload_n 3, 1) := by decide +kernel
theorem dX9_add_17 : decode cX9_add 17 = .ok (.aaload, 1) := by decide +kernel
theorem dX9_add_18 : decode cX9_add 18 = .ok (.iload_n 2, 1) := by decide +kernel
theorem dX9_add_19 : decode cX9_add 19 = .ok (.getstatic 30, 3) := by decide +kernel
theorem dX9_add_22 : decode cX9_add 22 = .ok (.iload_n 3, 1) := by decide +kernel
theorem dX9_add_23 : decode cX9_add 23 = .ok (.iaload, 1) := by decide +kernel
theorem dX9_add_24 : decode cX9_add 24 = .ok (.iastore, 1) := by decide +kernel
theorem dX9_add_25 : decode cX9_add 25 = .ok (.iinc 3 1, 3) := by decide +kernel
theorem dX9_add_28 : decode cX9_add 28 = .ok (.goto (-21), 3) := by decide +kernel
theorem dX9_add_31 : decode cX9_add 31 = .ok (.aload_n 0, 1) := by decide +kernel
theorem dX9_add_32 : decode cX9_add 32 = .ok (.getfield 11, 3) := by decide +kernel
theorem dX9_add_35 : decode cX9_add 35 = .ok (.iconst 0, 1) := by decide +kernel
theorem dX9_add_36 : decode cX9_add 36 = .ok (.aaload, 1) := by decide +kernel
theorem dX9_add_37 : decode cX9_add 37 = .ok (.iload_n 2, 1) := by decide +kernel
theorem dX9_add_38 : decode cX9_add 38 = .ok (.iload_n 1, 1) := by decide +kernel
theorem dX9_add_39 : decode cX9_add 39 = .ok (.iastore, 1) := by decide +kernel
theorem dX9_add_40 : decode cX9_add 40 = .ok (.aload_n 0, 1) := by decide +kernel
theorem dX9_add_41 : decode cX9_add 41 = .ok (.getfield 23, 3) := by decide +kernel
theorem dX9_add_44 : decode cX9_add 44 = .ok (.iload_n 2, 1) := by decide +kernel
theorem dX9_add_45 : decode cX9_add 45 = .ok (.aaload, 1) := by decide +kernel
theorem dX9_add_46 : decode cX9_add 46 = .ok (.iconst 1, 1) := by decide +kernel
theorem dX9_add_47 : decode cX9_add 47 = .ok (.invokestatic 33, 3) := by decide +kernel
theorem dX9_add_50 : decode cX9_add 50 = .ok (.aload_n 0, 1) := by decide +kernel
theorem dX9_add_51 : decode cX9_add 51 = .ok (.getfield 23, 3) := by decide +kernel
theorem dX9_add_54 : decode cX9_add 54 = .ok (.iload_n 2, 1) := by decide +kernel
theorem dX9_add_55 : decode cX9_add 55 = .ok (.aaload, 1) := by decide +kernel
theorem dX9_add_56 : decode cX9_add 56 = .ok (.iconst 0, 1) := by decide +kernel
theorem dX9_add_57 : decode cX9_add 57 = .ok (.iload_n 1, 1) := by decide +kernel
theorem dX9_add_58 : decode cX9_add 58 = .ok (.iastore, 1) := by decide +kernel
theorem dX9_add_59 : decode cX9_add 59 = .ok (.aload_n 0, 1) := by decide +kernel
theorem dX9_add_60 : decode cX9_add 60 = .ok (.dup, 1) := by decide +kernel
theorem dX9_add_61 : decode cX9_add 61 = .ok (.getfield 26, 3) := by decide +kernel
theorem dX9_add_64 : decode cX9_add 64 = .ok (.iconst 1, 1) := by decide +kernel
theorem dX9_add_65 : decode cX9_add 65 = .ok (.iadd, 1) := by decide +kernel
theorem dX9_add_66 : decode cX9_add 66 = .ok (.putfield 26, 3) := by decide +kernel
theorem dX9_add_69 : decode cX9_add 69 = .ok (.iload_n 2, 1) := by decide +kernel
theorem dX9_add_70 : decode cX9_add 70 = .ok (.ireturn, 1) := by decide +kernel
theorem dX9_has_0 : decode cX9_has 0 = .ok (.iload_n 1, 1) := by decide +kernel
theorem dX9_has_1 : decode cX9_has 1 = .ok (.iconst 0, 1) := by decide +kernel
theorem dX9_has_2 : decode cX9_has 2 = .ok (.aload_n 0, 1) := by decide +kernel
theorem dX9_has_3 : decode cX9_has 3 = .ok (.getfield 26, 3) := by decide +kernel
theorem dX9_has_6 : decode cX9_has 6 = .ok (.iconst 1, 1) := by decide +kernel
theorem dX9_has_7 : decode cX9_has 7 = .ok (.isub, 1) := by decide +kernel
theorem dX9_has_8 : decode cX9_has 8 = .ok (.invokestatic 39, 3) := by decide +kernel
theorem dX9_has_11 : decode cX9_has 11 = .ok (.ireturn, 1) := by decide +kernel
theorem dX9_all_0 : decode cX9_all 0 = .ok (.iconst 1, 1) := by decide +kernel
theorem dX9_all_1 : decode cX9_all 1 = .ok (.aload_n 0, 1) := by decide +kernel
theorem dX9_all_2 : decode cX9_all 2 = .ok (.getfield 26, 3) := by decide +kernel
theorem dX9_all_5 : decode cX9_all 5 = .ok (.ishl, 1) := by decide +kernel
theorem dX9_all_6 : decode cX9_all 6 = .ok (.iconst 1, 1) := by decide +kernel
theorem dX9_all_7 : decode cX9_all 7 = .ok (.isub, 1) := by decide +kernel
theorem dX9_all_8 : decode cX9_all 8 = .ok (.ireturn, 1) := by decide +kernel
theorem dX9_isToldAhead_0 : decode cX9_isToldAhead 0 = .ok (.aload_n 0, 1) := by decide +kernel
theorem dX9_isToldAhead_1 : decode cX9_isToldAhead 1 = .ok (.getfield 16, 3) := by decide +kernel
theorem dX9_isToldAhead_4 : decode cX9_isToldAhead 4 = .ok (.iload_n 2, 1) := by decide +kernel
theorem dX9_isToldAhead_5 : decode cX9_isToldAhead 5 = .ok (.iaload, 1) := by decide +kernel
theorem dX9_isToldAhead_6 : decode cX9_isToldAhead 6 = .ok (.iload_n 1, 1) := by decide +kernel
theorem dX9_isToldAhead_7 : decode cX9_isToldAhead 7 = .ok (.invokestatic 43, 3) := by decide +kernel
theorem dX9_isToldAhead_10 : decode cX9_isToldAhead 10 = .ok (.ireturn, 1) := by decide +kernel
theorem dX9_tellAhead_0 : decode cX9_tellAhead 0 = .ok (.iload_n 3, 1) := by decide +kernel
theorem dX9_tellAhead_1 : decode cX9_tellAhead 1 = .ok (.ifCond .eq 18, 3) := by decide +kernel
theorem dX9_tellAhead_4 : decode cX9_tellAhead 4 = .ok (.aload_n 0, 1) := by decide +kernel
theorem dX9_tellAhead_5 : decode cX9_tellAhead 5 = .ok (.getfield 16, 3) := by decide +kernel
theorem dX9_tellAhead_8 : decode cX9_tellAhead 8 = .ok (.iload_n 2, 1) := by decide +kernel
theorem dX9_tellAhead_9 : decode cX9_tellAhead 9 = .ok (.dup2, 1) := by decide +kernel
theorem dX9_tellAhead_10 : decode cX9_tellAhead 10 = .ok (.iaload, 1) := by decide +kernel
theorem dX9_tellAhead_11 : decode cX9_tellAhead 11 = .ok (.iconst 1, 1) := by decide +kernel
theorem dX9_tellAhead_12 : decode cX9_tellAhead 12 = .ok (.iload_n 1, 1) := by decide +kernel
theorem dX9_tellAhead_13 : decode cX9_tellAhead 13 = .ok (.ishl, 1) := by decide +kernel
theorem dX9_tellAhead_14 : decode cX9_tellAhead 14 = .ok (.ior, 1) := by decide +kernel
theorem dX9_tellAhead_15 : decode cX9_tellAhead 15 = .ok (.iastore, 1) := by decide +kernel
theorem dX9_tellAhead_16 : decode cX9_tellAhead 16 = .ok (.goto 17, 3) := by decide +kernel
theorem dX9_tellAhead_19 : decode cX9_tellAhead 19 = .ok (.aload_n 0, 1) := by decide +kernel
theorem dX9_tellAhead_20 : decode cX9_tellAhead 20 = .ok (.getfield 16, 3) := by decide +kernel
theorem dX9_tellAhead_23 : decode cX9_tellAhead 23 = .ok (.iload_n 2, 1) := by decide +kernel
theorem dX9_tellAhead_24 : decode cX9_tellAhead 24 = .ok (.dup2, 1) := by decide +kernel
theorem dX9_tellAhead_25 : decode cX9_tellAhead 25 = .ok (.iaload, 1) := by decide +kernel
theorem dX9_tellAhead_26 : decode cX9_tellAhead 26 = .ok (.iconst 1, 1) := by decide +kernel
theorem dX9_tellAhead_27 : decode cX9_tellAhead 27 = .ok (.iload_n 1, 1) := by decide +kernel
theorem dX9_tellAhead_28 : decode cX9_tellAhead 28 = .ok (.ishl, 1) := by decide +kernel
theorem dX9_tellAhead_29 : decode cX9_tellAhead 29 = .ok (.iconst (-1), 1) := by decide +kernel
theorem dX9_tellAhead_30 : decode cX9_tellAhead 30 = .ok (.ixor, 1) := by decide +kernel
theorem dX9_tellAhead_31 : decode cX9_tellAhead 31 = .ok (.iand, 1) := by decide +kernel
theorem dX9_tellAhead_32 : decode cX9_tellAhead 32 = .ok (.iastore, 1) := by decide +kernel
theorem dX9_tellAhead_33 : decode cX9_tellAhead 33 = .ok (.return_, 1) := by decide +kernel
theorem dX9_isAheadByOthersToo_0 : decode cX9_isAheadByOthersToo 0 = .ok (.aload_n 0, 1) := by decide +kernel
theorem dX9_isAheadByOthersToo_1 : decode cX9_isAheadByOthersToo 1 = .ok (.getfield 16, 3) := by decide +kernel
theorem dX9_isAheadByOthersToo_4 : decode cX9_isAheadByOthersToo 4 = .ok (.iload_n 2, 1) := by decide +kernel
theorem dX9_isAheadByOthersToo_5 : decode cX9_isAheadByOthersToo 5 = .ok (.iaload, 1) := by decide +kernel
theorem dX9_isAheadByOthersToo_6 : decode cX9_isAheadByOthersToo 6 = .ok (.istore_n 3, 1) := by decide +kernel
theorem dX9_isAheadByOthersToo_7 : decode cX9_isAheadByOthersToo 7 = .ok (.iconst 0, 1) := by decide +kernel
theorem dX9_isAheadByOthersToo_8 : decode cX9_isAheadByOthersToo 8 = .ok (.istore 4, 2) := by decide +kernel
theorem dX9_isAheadByOthersToo_10 : decode cX9_isAheadByOthersToo 10 = .ok (.iload 4, 2) := by decide +kernel
theorem dX9_isAheadByOthersToo_12 : decode cX9_isAheadByOthersToo 12 = .ok (.aload_n 0, 1) := by decide +kernel
theorem dX9_isAheadByOthersToo_13 : decode cX9_isAheadByOthersToo 13 = .ok (.getfield 26, 3) := by decide +kernel
theorem dX9_isAheadByOthersToo_16 : decode cX9_isAheadByOthersToo 16 = .ok (.if_icmp .ge 46, 3) := by decide +kernel
theorem dX9_isAheadByOthersToo_19 : decode cX9_isAheadByOthersToo 19 = .ok (.iconst 0, 1) := by decide +kernel
theorem dX9_isAheadByOthersToo_20 : decode cX9_isAheadByOthersToo 20 = .ok (.istore 5, 2) := by decide +kernel
theorem dX9_isAheadByOthersToo_22 : decode cX9_isAheadByOthersToo 22 = .ok (.iload 5, 2) := by decide +kernel
theorem dX9_isAheadByOthersToo_24 : decode cX9_isAheadByOthersToo 24 = .ok (.aload_n 0, 1) := by decide +kernel
theorem dX9_isAheadByOthersToo_25 : decode cX9_isAheadByOthersToo 25 = .ok (.getfield 26, 3) := by decide +kernel
theorem dX9_isAheadByOthersToo_28 : decode cX9_isAheadByOthersToo 28 = .ok (.if_icmp .ge 28, 3) := by decide +kernel
theorem dX9_isAheadByOthersToo_31 : decode cX9_isAheadByOthersToo 31 = .ok (.iload_n 3, 1) := by decide +kernel
theorem dX9_isAheadByOthersToo_32 : decode cX9_isAheadByOthersToo 32 = .ok (.iload 5, 2) := by decide +kernel
theorem dX9_isAheadByOthersToo_34 : decode cX9_isAheadByOthersToo 34 = .ok (.invokestatic 43, 3) := by decide +kernel
theorem dX9_isAheadByOthersToo_37 : decode cX9_isAheadByOthersToo 37 = .ok (.ifCond .eq 13, 3) := by decide +kernel
theorem dX9_isAheadByOthersToo_40 : decode cX9_isAheadByOthersToo 40 = .ok (.iload_n 3, 1) := by decide +kernel
theorem dX9_isAheadByOthersToo_41 : decode cX9_isAheadByOthersToo 41 = .ok (.aload_n 0, 1) := by decide +kernel
theorem dX9_isAheadByOthersToo_42 : decode cX9_isAheadByOthersToo 42 = .ok (.getfield 16, 3) := by decide +kernel
theorem dX9_isAheadByOthersToo_45 : decode cX9_isAheadByOthersToo 45 = .ok (.iload 5, 2) := by decide +kernel
theorem dX9_isAheadByOthersToo_47 : decode cX9_isAheadByOthersToo 47 = .ok (.iaload, 1) := by decide +kernel
theorem dX9_isAheadByOthersToo_48 : decode cX9_isAheadByOthersToo 48 = .ok (.ior, 1) := by decide +kernel
theorem dX9_isAheadByOthersToo_49 : decode cX9_isAheadByOthersToo 49 = .ok (.istore_n 3, 1) := by decide +kernel
theorem dX9_isAheadByOthersToo_50 : decode cX9_isAheadByOthersToo 50 = .ok (.iinc 5 1, 3) := by decide +kernel
theorem dX9_isAheadByOthersToo_53 : decode cX9_isAheadByOthersToo 53 = .ok (.goto (-31), 3) := by decide +kernel
theorem dX9_isAheadByOthersToo_56 : decode cX9_isAheadByOthersToo 56 = .ok (.iinc 4 1, 3) := by decide +kernel
theorem dX9_isAheadByOthersToo_59 : decode cX9_isAheadByOthersToo 59 = .ok (.goto (-49), 3) := by decide +kernel
theorem dX9_isAheadByOthersToo_62 : decode cX9_isAheadByOthersToo 62 = .ok (.iload_n 3, 1) := by decide +kernel
theorem dX9_isAheadByOthersToo_63 : decode cX9_isAheadByOthersToo 63 = .ok (.iload_n 1, 1) := by decide +kernel
theorem dX9_isAheadByOthersToo_64 : decode cX9_isAheadByOthersToo 64 = .ok (.invokestatic 43, 3) := by decide +kernel
theorem dX9_isAheadByOthersToo_67 : decode cX9_isAheadByOthersToo 67 = .ok (.ireturn, 1) := by decide +kernel
theorem dX9_mayFollow_0 : decode cX9_mayFollow 0 = .ok (.iload_n 1, 1) := by decide +kernel
theorem dX9_mayFollow_1 : decode cX9_mayFollow 1 = .ok (.iload_n 2, 1) := by decide +kernel
theorem dX9_mayFollow_2 : decode cX9_mayFollow 2 = .ok (.invokestatic 43, 3) := by decide +kernel
theorem dX9_mayFollow_5 : decode cX9_mayFollow 5 = .ok (.ifCond .ne 20, 3) := by decide +kernel
theorem dX9_mayFollow_8 : decode cX9_mayFollow 8 = .ok (.aload_n 0, 1) := by decide +kernel
theorem dX9_mayFollow_9 : decode cX9_mayFollow 9 = .ok (.getfield 16, 3) := by decide +kernel
theorem dX9_mayFollow_12 : decode cX9_mayFollow 12 = .ok (.iload_n 2, 1) := by decide +kernel
theorem dX9_mayFollow_13 : decode cX9_mayFollow 13 = .ok (.iaload, 1) := by decide +kernel
theorem dX9_mayFollow_14 : decode cX9_mayFollow 14 = .ok (.iload_n 1, 1) := by decide +kernel
theorem dX9_mayFollow_15 : decode cX9_mayFollow 15 = .ok (.iconst (-1), 1) := by decide +kernel
theorem dX9_mayFollow_16 : decode cX9_mayFollow 16 = .ok (.ixor, 1) := by decide +kernel
theorem dX9_mayFollow_17 : decode cX9_mayFollow 17 = .ok (.iand, 1) := by decide +kernel
theorem dX9_mayFollow_18 : decode cX9_mayFollow 18 = .ok (.ifCond .ne 7, 3) := by decide +kernel
theorem dX9_mayFollow_21 : decode cX9_mayFollow 21 = .ok (.iconst 1, 1) := by decide +kernel
theorem dX9_mayFollow_22 : decode cX9_mayFollow 22 = .ok (.goto 4, 3) := by decide +kernel
theorem dX9_mayFollow_25 : decode cX9_mayFollow 25 = .ok (.iconst 0, 1) := by decide +kernel
theorem dX9_mayFollow_26 : decode cX9_mayFollow 26 = .ok (.ireturn, 1) := by decide +kernel
theorem dX9_keepsAhead_0 : decode cX9_keepsAhead 0 = .ok (.iconst 0, 1) := by decide +kernel
theorem dX9_keepsAhead_1 : decode cX9_keepsAhead 1 = .ok (.istore_n 2, 1) := by decide +kernel
theorem dX9_keepsAhead_2 : decode cX9_keepsAhead 2 = .ok (.iconst 0, 1) := by decide +kernel
theorem dX9_keepsAhead_3 : decode cX9_keepsAhead 3 = .ok (.istore_n 3, 1) := by decide +kernel
theorem dX9_keepsAhead_4 : decode cX9_keepsAhead 4 = .ok (.iload_n 3, 1) := by decide +kernel
theorem dX9_keepsAhead_5 : decode cX9_keepsAhead 5 = .ok (.aload_n 0, 1) := by decide +kernel
theorem dX9_keepsAhead_6 : decode cX9_keepsAhead 6 = .ok (.getfield 26, 3) := by decide +kernel
theorem dX9_keepsAhead_9 : decode cX9_keepsAhead 9 = .ok (.if_icmp .ge 30, 3) := by decide +kernel
theorem dX9_keepsAhead_12 : decode cX9_keepsAhead 12 = .ok (.aload_n 0, 1) := by decide +kernel
theorem dX9_keepsAhead_13 : decode cX9_keepsAhead 13 = .ok (.iload_n 2, 1) := by decide +kernel
theorem dX9_keepsAhead_14 : decode cX9_keepsAhead 14 = .ok (.aload_n 1, 1) := by decide +kernel
theorem dX9_keepsAhead_15 : decode cX9_keepsAhead 15 = .ok (.iload_n 3, 1) := by decide +kernel
theorem dX9_keepsAhead_16 : decode cX9_keepsAhead 16 = .ok (.iaload, 1) := by decide +kernel
theorem dX9_keepsAhead_17 : decode cX9_keepsAhead 17 = .ok (.invokevirtual 47, 3) := by decide +kernel
theorem dX9_keepsAhead_20 : decode cX9_keepsAhead 20 = .ok (.ifCond .ne 5, 3) := by decide +kernel
theorem dX9_keepsAhead_23 : decode cX9_keepsAhead 23 = .ok (.iconst 0, 1) := by decide +kernel
theorem dX9_keepsAhead_24 : decode cX9_keepsAhead 24 = .ok (.ireturn, 1) := by decide +kernel
theorem dX9_keepsAhead_25 : decode cX9_keepsAhead 25 = .ok (.iload_n 2, 1) := by decide +kernel
theorem dX9_keepsAhead_26 : decode cX9_keepsAhead 26 = .ok (.iconst 1, 1) := by decide +kernel
theorem dX9_keepsAhead_27 : decode cX9_keepsAhead 27 = .ok (.aload_n 1, 1) := by decide +kernel
theorem dX9_keepsAhead_28 : decode cX9_keepsAhead 28 = .ok (.iload_n 3, 1) := by decide +kernel
theorem dX9_keepsAhead_29 : decode cX9_keepsAhead 29 = .ok (.iaload, 1) := by decide +kernel
theorem dX9_keepsAhead_30 : decode cX9_keepsAhead 30 = .ok (.ishl, 1) := by decide +kernel
theorem dX9_keepsAhead_31 : decode cX9_keepsAhead 31 = .ok (.ior, 1) := by decide +kernel
theorem dX9_keepsAhead_32 : decode cX9_keepsAhead 32 = .ok (.istore_n 2, 1) := by decide +kernel
theorem dX9_keepsAhead_33 : decode cX9_keepsAhead 33 = .ok (.iinc 3 1, 3) := by decide +kernel
theorem dX9_keepsAhead_36 : decode cX9_keepsAhead 36 = .ok (.goto (-32), 3) := by decide +kernel
theorem dX9_keepsAhead_39 : decode cX9_keepsAhead 39 = .ok (.iconst 1, 1) := by decide +kernel
theorem dX9_keepsAhead_40 : decode cX9_keepsAhead 40 = .ok (.ireturn, 1) := by decide +kernel
theorem dX9_allLong_0 : decode cX9_allLong 0 = .ok (.iconst 0, 1) := by decide +kernel
theorem dX9_allLong_1 : decode cX9_allLong 1 = .ok (.istore_n 1, 1) := by decide +kernel
theorem dX9_allLong_2 : decode cX9_allLong 2 = .ok (.iconst 0, 1) := by decide +kernel
theorem dX9_allLong_3 : decode cX9_allLong 3 = .ok (.istore_n 2, 1) := by decide +kernel
theorem dX9_allLong_4 : decode cX9_allLong 4 = .ok (.iload_n 2, 1) := by decide +kernel
theorem dX9_allLong_5 : decode cX9_allLong 5 = .ok (.aload_n 0, 1) := by decide +kernel
theorem dX9_allLong_6 : decode cX9_allLong 6 = .ok (.getfield 26, 3) := by decide +kernel
theorem dX9_allLong_9 : decode cX9_allLong 9 = .ok (.if_icmp .ge 20, 3) := by decide +kernel
theorem dX9_allLong_12 : decode cX9_allLong 12 = .ok (.iload_n 1, 1) := by decide +kernel
theorem dX9_allLong_13 : decode cX9_allLong 13 = .ok (.aload_n 0, 1) := by decide +kernel
theorem dX9_allLong_14 : decode cX9_allLong 14 = .ok (.getfield 11, 3) := by decide +kernel
theorem dX9_allLong_17 : decode cX9_allLong 17 = .ok (.iconst 0, 1) := by decide +kernel
theorem dX9_allLong_18 : decode cX9_allLong 18 = .ok (.aaload, 1) := by decide +kernel
theorem dX9_allLong_19 : decode cX9_allLong 19 = .ok (.iload_n 2, 1) := by decide +kernel
theorem dX9_allLong_20 : decode cX9_allLong 20 = .ok (.iaload, 1) := by decide +kernel
theorem dX9_allLong_21 : decode cX9_allLong 21 = .ok (.iadd, 1) := by decide +kernel
theorem dX9_allLong_22 : decode cX9_allLong 22 = .ok (.istore_n 1, 1) := by decide +kernel
theorem dX9_allLong_23 : decode cX9_allLong 23 = .ok (.iinc 2 1, 3) := by decide +kernel
theorem dX9_allLong_26 : decode cX9_allLong 26 = .ok (.goto (-22), 3) := by decide +kernel
theorem dX9_allLong_29 : decode cX9_allLong 29 = .ok (.iload_n 1, 1) := by decide +kernel
theorem dX9_allLong_30 : decode cX9_allLong 30 = .ok (.ireturn, 1) := by decide +kernel
theorem dX9_late_0 : decode cX9_late 0 = .ok (.iconst 0, 1) := by decide +kernel
theorem dX9_late_1 : decode cX9_late 1 = .ok (.iload_n 2, 1) := by decide +kernel
theorem dX9_late_2 : decode cX9_late 2 = .ok (.aload_n 0, 1) := by decide +kernel
theorem dX9_late_3 : decode cX9_late 3 = .ok (.getfield 11, 3) := by decide +kernel
theorem dX9_late_6 : decode cX9_late 6 = .ok (.iconst 2, 1) := by decide +kernel
theorem dX9_late_7 : decode cX9_late 7 = .ok (.aaload, 1) := by decide +kernel
theorem dX9_late_8 : decode cX9_late 8 = .ok (.iload_n 1, 1) := by decide +kernel
theorem dX9_late_9 : decode cX9_late 9 = .ok (.iaload, 1) := by decide +kernel
theorem dX9_late_10 : decode cX9_late 10 = .ok (.isub, 1) := by decide +kernel
theorem dX9_late_11 : decode cX9_late 11 = .ok (.invokestatic 50, 3) := by decide +kernel
theorem dX9_late_14 : decode cX9_late 14 = .ok (.ireturn, 1) := by decide +kernel
theorem dX9_endBehind_0 : decode cX9_endBehind 0 = .ok (.iload_n 1, 1) := by decide +kernel
theorem dX9_endBehind_1 : decode cX9_endBehind 1 = .ok (.aload_n 0, 1) := by decide +kernel
theorem dX9_endBehind_2 : decode cX9_endBehind 2 = .ok (.getfield 11, 3) := by decide +kernel
theorem dX9_endBehind_5 : decode cX9_endBehind 5 = .ok (.iconst 1, 1) := by decide +kernel
theorem dX9_endBehind_6 : decode cX9_endBehind 6 = .ok (.aaload, 1) := by decide +kernel
theorem dX9_endBehind_7 : decode cX9_endBehind 7 = .ok (.iload_n 2, 1) := by decide +kernel
theorem dX9_endBehind_8 : decode cX9_endBehind 8 = .ok (.iaload, 1) := by decide +kernel
theorem dX9_endBehind_9 : decode cX9_endBehind 9 = .ok (.invokestatic 50, 3) := by decide +kernel
theorem dX9_endBehind_12 : decode cX9_endBehind 12 = .ok (.aload_n 0, 1) := by decide +kernel
theorem dX9_endBehind_13 : decode cX9_endBehind 13 = .ok (.getfield 11, 3) := by decide +kernel
theorem dX9_endBehind_16 : decode cX9_endBehind 16 = .ok (.iconst 0, 1) := by decide +kernel
theorem dX9_endBehind_17 : decode cX9_endBehind 17 = .ok (.aaload, 1) := by decide +kernel
theorem dX9_endBehind_18 : decode cX9_endBehind 18 = .ok (.iload_n 2, 1) := by decide +kernel
theorem dX9_endBehind_19 : decode cX9_endBehind 19 = .ok (.iaload, 1) := by decide +kernel
theorem dX9_endBehind_20 : decode cX9_endBehind 20 = .ok (.iadd, 1) := by decide +kernel
theorem dX9_endBehind_21 : decode cX9_endBehind 21 = .ok (.ireturn, 1) := by decide +kernel
theorem dX9_changeFor_0 : decode cX9_changeFor 0 = .ok (.iload_n 1, 1) := by decide +kernel
theorem dX9_changeFor_1 : decode cX9_changeFor 1 = .ok (.iconst (-1), 1) := by decide +kernel
theorem dX9_changeFor_2 : decode cX9_changeFor 2 = .ok (.if_icmp .ne 7, 3) := by decide +kernel
theorem dX9_changeFor_5 : decode cX9_changeFor 5 = .ok (.iconst 0, 1) := by decide +kernel
theorem dX9_changeFor_6 : decode cX9_changeFor 6 = .ok (.goto 18, 3) := by decide +kernel
theorem dX9_changeFor_9 : decode cX9_changeFor 9 = .ok (.aload_n 0, 1) := by decide +kernel
theorem dX9_changeFor_10 : decode cX9_changeFor 10 = .ok (.getfield 20, 3) := by decide +kernel
theorem dX9_changeFor_13 : decode cX9_changeFor 13 = .ok (.iload_n 1, 1) := by decide +kernel
theorem dX9_changeFor_14 : decode cX9_changeFor 14 = .ok (.aaload, 1) := by decide +kernel
theorem dX9_changeFor_15 : decode cX9_changeFor 15 = .ok (.aload_n 0, 1) := by decide +kernel
theorem dX9_changeFor_16 : decode cX9_changeFor 16 = .ok (.getfield 11, 3) := by decide +kernel
theorem dX9_changeFor_19 : decode cX9_changeFor 19 = .ok (.iconst 4, 1) := by decide +kernel
theorem dX9_changeFor_20 : decode cX9_changeFor 20 = .ok (.aaload, 1) := by decide +kernel
theorem dX9_changeFor_21 : decode cX9_changeFor 21 = .ok (.iload_n 2, 1) := by decide +kernel
theorem dX9_changeFor_22 : decode cX9_changeFor 22 = .ok (.iaload, 1) := by decide +kernel
theorem dX9_changeFor_23 : decode cX9_changeFor 23 = .ok (.iaload, 1) := by decide +kernel
theorem dX9_changeFor_24 : decode cX9_changeFor 24 = .ok (.ireturn, 1) := by decide +kernel
theorem dX9_gathered_0 : decode cX9_gathered 0 = .ok (.iload_n 1, 1) := by decide +kernel
theorem dX9_gathered_1 : decode cX9_gathered 1 = .ok (.tableswitch 83 0 3 #[31, 38, 52, 71], 31) := by decide +kernel
theorem dX9_gathered_32 : decode cX9_gathered 32 = .ok (.iload_n 2, 1) := by decide +kernel
theorem dX9_gathered_33 : decode cX9_gathered 33 = .ok (.iload 4, 2) := by decide +kernel
theorem dX9_gathered_35 : decode cX9_gathered 35 = .ok (.invokestatic 50, 3) := by decide +kernel
theorem dX9_gathered_38 : decode cX9_gathered 38 = .ok (.ireturn, 1) := by decide +kernel
theorem dX9_gathered_39 : decode cX9_gathered 39 = .ok (.iload_n 2, 1) := by decide +kernel
theorem dX9_gathered_40 : decode cX9_gathered 40 = .ok (.aload_n 0, 1) := by decide +kernel
theorem dX9_gathered_41 : decode cX9_gathered 41 = .ok (.getfield 11, 3) := by decide +kernel
theorem dX9_gathered_44 : decode cX9_gathered 44 = .ok (.iconst 3, 1) := by decide +kernel
theorem dX9_gathered_45 : decode cX9_gathered 45 = .ok (.aaload, 1) := by decide +kernel
theorem dX9_gathered_46 : decode cX9_gathered 46 = .ok (.iload_n 3, 1) := by decide +kernel
theorem dX9_gathered_47 : decode cX9_gathered 47 = .ok (.iaload, 1) := by decide +kernel
theorem dX9_gathered_48 : decode cX9_gathered 48 = .ok (.iload 4, 2) := by decide +kernel
theorem dX9_gathered_50 : decode cX9_gathered 50 = .ok (.imul, 1) := by decide +kernel
theorem dX9_gathered_51 : decode cX9_gathered 51 = .ok (.iadd, 1) := by decide +kernel
theorem dX9_gathered_52 : decode cX9_gathered 52 = .ok (.ireturn, 1) := by decide +kernel
theorem dX9_gathered_53 : decode cX9_gathered 53 = .ok (.iload_n 2, 1) := by decide +kernel
theorem dX9_gathered_54 : decode cX9_gathered 54 = .ok (.aload_n 0, 1) := by decide +kernel
theorem dX9_gathered_55 : decode cX9_gathered 55 = .ok (.getfield 11, 3) := by decide +kernel
theorem dX9_gathered_58 : decode cX9_gathered 58 = .ok (.iconst 3, 1) := by decide +kernel
theorem dX9_gathered_59 : decode cX9_gathered 59 = .ok (.aaload, 1) := by decide +kernel
theorem dX9_gathered_60 : decode cX9_gathered 60 = .ok (.iload_n 3, 1) := by decide +kernel
theorem dX9_gathered_61 : decode cX9_gathered 61 = .ok (.iaload, 1) := by decide +kernel
theorem dX9_gathered_62 : decode cX9_gathered 62 = .ok (.aload_n 0, 1) := by decide +kernel
theorem dX9_gathered_63 : decode cX9_gathered 63 = .ok (.iload_n 3, 1) := by decide +kernel
theorem dX9_gathered_64 : decode cX9_gathered 64 = .ok (.iload 4, 2) := by decide +kernel
theorem dX9_gathered_66 : decode cX9_gathered 66 = .ok (.invokevirtual 56, 3) := by decide +kernel
theorem dX9_gathered_69 : decode cX9_gathered 69 = .ok (.imul, 1) := by decide +kernel
theorem dX9_gathered_70 : decode cX9_gathered 70 = .ok (.iadd, 1) := by decide +kernel
theorem dX9_gathered_71 : decode cX9_gathered 71 = .ok (.ireturn, 1) := by decide +kernel
theorem dX9_gathered_72 : decode cX9_gathered 72 = .ok (.iload_n 2, 1) := by decide +kernel
theorem dX9_gathered_73 : decode cX9_gathered 73 = .ok (.aload_n 0, 1) := by decide +kernel
theorem dX9_gathered_74 : decode cX9_gathered 74 = .ok (.iload_n 3, 1) := by decide +kernel
theorem dX9_gathered_75 : decode cX9_gathered 75 = .ok (.iload 4, 2) := by decide +kernel
theorem dX9_gathered_77 : decode cX9_gathered 77 = .ok (.invokevirtual 56, 3) := by decide +kernel
theorem dX9_gathered_80 : decode cX9_gathered 80 = .ok (.invokestatic 50, 3) := by decide +kernel
theorem dX9_gathered_83 : decode cX9_gathered 83 = .ok (.ireturn, 1) := by decide +kernel
theorem dX9_gathered_84 : decode cX9_gathered 84 = .ok (.aload_n 0, 1) := by decide +kernel
theorem dX9_gathered_85 : decode cX9_gathered 85 = .ok (.iload_n 3, 1) := by decide +kernel
theorem dX9_gathered_86 : decode cX9_gathered 86 = .ok (.iload 4, 2) := by decide +kernel
theorem dX9_gathered_88 : decode cX9_gathered 88 = .ok (.invokevirtual 56, 3) := by decide +kernel
theorem dX9_gathered_91 : decode cX9_gathered 91 = .ok (.ifCond .le 16, 3) := by decide +kernel
theorem dX9_gathered_94 : decode cX9_gathered 94 = .ok (.iload_n 2, 1) := by decide +kernel
theorem dX9_gathered_95 : decode cX9_gathered 95 = .ok (.aload_n 0, 1) := by decide +kernel
theorem dX9_gathered_96 : decode cX9_gathered 96 = .ok (.getfield 11, 3) := by decide +kernel
theorem dX9_gathered_99 : decode cX9_gathered 99 = .ok (.iconst 3, 1) := by decide +kernel
theorem dX9_gathered_100 : decode cX9_gathered 100 = .ok (.aaload, 1) := by decide +kernel
theorem dX9_gathered_101 : decode cX9_gathered 101 = .ok (.iload_n 3, 1) := by decide +kernel
theorem dX9_gathered_102 : decode cX9_gathered 102 = .ok (.iaload, 1) := by decide +kernel
theorem dX9_gathered_103 : decode cX9_gathered 103 = .ok (.iadd, 1) := by decide +kernel
theorem dX9_gathered_104 : decode cX9_gathered 104 = .ok (.goto 4, 3) := by decide +kernel
theorem dX9_gathered_107 : decode cX9_gathered 107 = .ok (.iload_n 2, 1) := by decide +kernel
theorem dX9_gathered_108 : decode cX9_gathered 108 = .ok (.ireturn, 1) := by decide +kernel
theorem dX9_makes_0 : decode cX9_makes 0 = .ok (.iconst 0, 1) := by decide +kernel
theorem dX9_makes_1 : decode cX9_makes 1 = .ok (.istore_n 3, 1) := by decide +kernel
theorem dX9_makes_2 : decode cX9_makes 2 = .ok (.iconst 0, 1) := by decide +kernel
theorem dX9_makes_3 : decode cX9_makes 3 = .ok (.istore 4, 2) := by decide +kernel
theorem dX9_makes_5 : decode cX9_makes 5 = .ok (.iconst (-1), 1) := by decide +kernel
theorem dX9_makes_6 : decode cX9_makes 6 = .ok (.istore 5, 2) := by decide +kernel
theorem dX9_makes_8 : decode cX9_makes 8 = .ok (.iconst 0, 1) := by decide +kernel
theorem dX9_makes_9 : decode cX9_makes 9 = .ok (.istore 6, 2) := by decide +kernel
theorem dX9_makes_11 : decode cX9_makes 11 = .ok (.iload 6, 2) := by decide +kernel
theorem dX9_makes_13 : decode cX9_makes 13 = .ok (.aload_n 0, 1) := by decide +kernel
theorem dX9_makes_14 : decode cX9_makes 14 = .ok (.getfield 26, 3) := by decide +kernel
theorem dX9_makes_17 : decode cX9_makes 17 = .ok (.if_icmp .ge 56, 3) := by decide +kernel
theorem dX9_makes_20 : decode cX9_makes 20 = .ok (.aload_n 2, 1) := by decide +kernel
theorem dX9_makes_21 : decode cX9_makes 21 = .ok (.iload 6, 2) := by decide +kernel
theorem dX9_makes_23 : decode cX9_makes 23 = .ok (.iaload, 1) := by decide +kernel
theorem dX9_makes_24 : decode cX9_makes 24 = .ok (.istore 7, 2) := by decide +kernel
theorem dX9_makes_26 : decode cX9_makes 26 = .ok (.aload_n 0, 1) := by decide +kernel
theorem dX9_makes_27 : decode cX9_makes 27 = .ok (.iload 4, 2) := by decide +kernel
theorem dX9_makes_29 : decode cX9_makes 29 = .ok (.aload_n 0, 1) := by decide +kernel
theorem dX9_makes_30 : decode cX9_makes 30 = .ok (.iload 5, 2) := by decide +kernel
theorem dX9_makes_32 : decode cX9_makes 32 = .ok (.iload 7, 2) := by decide +kernel
theorem dX9_makes_34 : decode cX9_makes 34 = .ok (.invokevirtual 59, 3) := by decide +kernel
theorem dX9_makes_37 : decode cX9_makes 37 = .ok (.iadd, 1) := by decide +kernel
theorem dX9_makes_38 : decode cX9_makes 38 = .ok (.iload 7, 2) := by decide +kernel
theorem dX9_makes_40 : decode cX9_makes 40 = .ok (.invokevirtual 62, 3) := by decide +kernel
theorem dX9_makes_43 : decode cX9_makes 43 = .ok (.istore 4, 2) := by decide +kernel
theorem dX9_makes_45 : decode cX9_makes 45 = .ok (.aload_n 0, 1) := by decide +kernel
theorem dX9_makes_46 : decode cX9_makes 46 = .ok (.iload_n 1, 1) := by decide +kernel
theorem dX9_makes_47 : decode cX9_makes 47 = .ok (.iload_n 3, 1) := by decide +kernel
theorem dX9_makes_48 : decode cX9_makes 48 = .ok (.iload 7, 2) := by decide +kernel
theorem dX9_makes_50 : decode cX9_makes 50 = .ok (.iload 4, 2) := by decide +kernel
theorem dX9_makes_52 : decode cX9_makes 52 = .ok (.invokevirtual 65, 3) := by decide +kernel
theorem dX9_makes_55 : decode cX9_makes 55 = .ok (.istore_n 3, 1) := by decide +kernel
theorem dX9_makes_56 : decode cX9_makes 56 = .ok (.aload_n 0, 1) := by decide +kernel
theorem dX9_makes_57 : decode cX9_makes 57 = .ok (.getfield 11, 3) := by decide +kernel
theorem dX9_makes_60 : decode cX9_makes 60 = .ok (.iconst 4, 1) := by decide +kernel
theorem dX9_makes_61 : decode cX9_makes 61 = .ok (.aaload, 1) := by decide +kernel
theorem dX9_makes_62 : decode cX9_makes 62 = .ok (.iload 7, 2) := by decide +kernel
theorem dX9_makes_64 : decode cX9_makes 64 = .ok (.iaload, 1) := by decide +kernel
theorem dX9_makes_65 : decode cX9_makes 65 = .ok (.istore 5, 2) := by decide +kernel
theorem dX9_makes_67 : decode cX9_makes 67 = .ok (.iinc 6 1, 3) := by decide +kernel
theorem dX9_makes_70 : decode cX9_makes 70 = .ok (.goto (-59), 3) := by decide +kernel
theorem dX9_makes_73 : decode cX9_makes 73 = .ok (.iload_n 3, 1) := by decide +kernel
theorem dX9_makes_74 : decode cX9_makes 74 = .ok (.ireturn, 1) := by decide +kernel
theorem dX9_foldInto_0 : decode cX9_foldInto 0 = .ok (.iconst 0, 1) := by decide +kernel
theorem dX9_foldInto_1 : decode cX9_foldInto 1 = .ok (.istore_n 3, 1) := by decide +kernel
theorem dX9_foldInto_2 : decode cX9_foldInto 2 = .ok (.iload_n 3, 1) := by decide +kernel
theorem dX9_foldInto_3 : decode cX9_foldInto 3 = .ok (.aload_n 0, 1) := by decide +kernel
theorem dX9_foldInto_4 : decode cX9_foldInto 4 = .ok (.getfield 26, 3) := by decide +kernel
theorem dX9_foldInto_7 : decode cX9_foldInto 7 = .ok (.if_icmp .ge 78, 3) := by decide +kernel
theorem dX9_foldInto_10 : decode cX9_foldInto 10 = .ok (.iconst 0, 1) := by decide +kernel
theorem dX9_foldInto_11 : decode cX9_foldInto 11 = .ok (.istore 4, 2) := by decide +kernel
theorem dX9_foldInto_13 : decode cX9_foldInto 13 = .ok (.iload 4, 2) := by decide +kernel
theorem dX9_foldInto_15 : decode cX9_foldInto 15 = .ok (.iconst 5, 1) := by decide +kernel
theorem dX9_foldInto_16 : decode cX9_foldInto 16 = .ok (.if_icmp .ge 23, 3) := by decide +kernel
theorem dX9_foldInto_19 : decode cX9_foldInto 19 = .ok (.lload_n 1, 1) := by decide +kernel
theorem dX9_foldInto_20 : decode cX9_foldInto 20 = .ok (.aload_n 0, 1) := by decide +kernel
theorem dX9_foldInto_21 : decode cX9_foldInto 21 = .ok (.getfield 11, 3) := by decide +kernel
theorem dX9_foldInto_24 : decode cX9_foldInto 24 = .ok (.iload 4, 2) := by decide +kernel
theorem dX9_foldInto_26 : decode cX9_foldInto 26 = .ok (.aaload, 1) := by decide +kernel
theorem dX9_foldInto_27 : decode cX9_foldInto 27 = .ok (.iload_n 3, 1) := by decide +kernel
theorem dX9_foldInto_28 : decode cX9_foldInto 28 = .ok (.iaload, 1) := by decide +kernel
theorem dX9_foldInto_29 : decode cX9_foldInto 29 = .ok (.invokestatic 69, 3) := by decide +kernel
theorem dX9_foldInto_32 : decode cX9_foldInto 32 = .ok (.lstore_n 1, 1) := by decide +kernel
theorem dX9_foldInto_33 : decode cX9_foldInto 33 = .ok (.iinc 4 1, 3) := by decide +kernel
theorem dX9_foldInto_36 : decode cX9_foldInto 36 = .ok (.goto (-23), 3) := by decide +kernel
theorem dX9_foldInto_39 : decode cX9_foldInto 39 = .ok (.lload_n 1, 1) := by decide +kernel
theorem dX9_foldInto_40 : decode cX9_foldInto 40 = .ok (.aload_n 0, 1) := by decide +kernel
theorem dX9_foldInto_41 : decode cX9_foldInto 41 = .ok (.getfield 16, 3) := by decide +kernel
theorem dX9_foldInto_44 : decode cX9_foldInto 44 = .ok (.iload_n 3, 1) := by decide +kernel
theorem dX9_foldInto_45 : decode cX9_foldInto 45 = .ok (.iaload, 1) := by decide +kernel
theorem dX9_foldInto_46 : decode cX9_foldInto 46 = .ok (.invokestatic 69, 3) := by decide +kernel
theorem dX9_foldInto_49 : decode cX9_foldInto 49 = .ok (.lstore_n 1, 1) := by decide +kernel
theorem dX9_foldInto_50 : decode cX9_foldInto 50 = .ok (.iconst 0, 1) := by decide +kernel
theorem dX9_foldInto_51 : decode cX9_foldInto 51 = .ok (.istore 4, 2) := by decide +kernel
theorem dX9_foldInto_53 : decode cX9_foldInto 53 = .ok (.iload 4, 2) := by decide +kernel
theorem dX9_foldInto_55 : decode cX9_foldInto 55 = .ok (.iconst 4, 1) := by decide +kernel
theorem dX9_foldInto_56 : decode cX9_foldInto 56 = .ok (.if_icmp .ge 23, 3) := by decide +kernel
theorem dX9_foldInto_59 : decode cX9_foldInto 59 = .ok (.lload_n 1, 1) := by decide +kernel
theorem dX9_foldInto_60 : decode cX9_foldInto 60 = .ok (.aload_n 0, 1) := by decide +kernel
theorem dX9_foldInto_61 : decode cX9_foldInto 61 = .ok (.getfield 23, 3) := by decide +kernel
theorem dX9_foldInto_64 : decode cX9_foldInto 64 = .ok (.iload_n 3, 1) := by decide +kernel
theorem dX9_foldInto_65 : decode cX9_foldInto 65 = .ok (.aaload, 1) := by decide +kernel
theorem dX9_foldInto_66 : decode cX9_foldInto 66 = .ok (.iload 4, 2) := by decide +kernel
theorem dX9_foldInto_68 : decode cX9_foldInto 68 = .ok (.iaload, 1) := by decide +kernel
theorem dX9_foldInto_69 : decode cX9_foldInto 69 = .ok (.invokestatic 69, 3) := by decide +kernel
theorem dX9_foldInto_72 : decode cX9_foldInto 72 = .ok (.lstore_n 1, 1) := by decide +kernel
theorem dX9_foldInto_73 : decode cX9_foldInto 73 = .ok (.iinc 4 1, 3) := by decide +kernel
theorem dX9_foldInto_76 : decode cX9_foldInto 76 = .ok (.goto (-23), 3) := by decide +kernel
theorem dX9_foldInto_79 : decode cX9_foldInto 79 = .ok (.iinc 3 1, 3) := by decide +kernel
theorem dX9_foldInto_82 : decode cX9_foldInto 82 = .ok (.goto (-80), 3) := by decide +kernel
theorem dX9_foldInto_85 : decode cX9_foldInto 85 = .ok (.iconst 0, 1) := by decide +kernel
theorem dX9_foldInto_86 : decode cX9_foldInto 86 = .ok (.istore_n 3, 1) := by decide +kernel
theorem dX9_foldInto_87 : decode cX9_foldInto 87 = .ok (.iload_n 3, 1) := by decide +kernel
theorem dX9_foldInto_88 : decode cX9_foldInto 88 = .ok (.iconst 3, 1) := by decide +kernel
theorem dX9_foldInto_89 : decode cX9_foldInto 89 = .ok (.if_icmp .ge 38, 3) := by decide +kernel
theorem dX9_foldInto_92 : decode cX9_foldInto 92 = .ok (.iconst 0, 1) := by decide +kernel
theorem dX9_foldInto_93 : decode cX9_foldInto 93 = .ok (.istore 4, 2) := by decide +kernel
theorem dX9_foldInto_95 : decode cX9_foldInto 95 = .ok (.iload 4, 2) := by decide +kernel
theorem dX9_foldInto_97 : decode cX9_foldInto 97 = .ok (.iconst 3, 1) := by decide +kernel
theorem dX9_foldInto_98 : decode cX9_foldInto 98 = .ok (.if_icmp .ge 23, 3) := by decide +kernel
theorem dX9_foldInto_101 : decode cX9_foldInto 101 = .ok (.lload_n 1, 1) := by decide +kernel
theorem dX9_foldInto_102 : decode cX9_foldInto 102 = .ok (.aload_n 0, 1) := by decide +kernel
theorem dX9_foldInto_103 : decode cX9_foldInto 103 = .ok (.getfield 20, 3) := by decide +kernel
theorem dX9_foldInto_106 : decode cX9_foldInto 106 = .ok (.iload_n 3, 1) := by decide +kernel
theorem dX9_foldInto_107 : decode cX9_foldInto 107 = .ok (.aaload, 1) := by decide +kernel
theorem dX9_foldInto_108 : decode cX9_foldInto 108 = .ok (.iload 4, 2) := by decide +kernel
theorem dX9_foldInto_110 : decode cX9_foldInto 110 = .ok (.iaload, 1) := by decide +kernel
theorem dX9_foldInto_111 : decode cX9_foldInto 111 = .ok (.invokestatic 69, 3) := by decide +kernel
theorem dX9_foldInto_114 : decode cX9_foldInto 114 = .ok (.lstore_n 1, 1) := by decide +kernel
theorem dX9_foldInto_115 : decode cX9_foldInto 115 = .ok (.iinc 4 1, 3) := by decide +kernel
theorem dX9_foldInto_118 : decode cX9_foldInto 118 = .ok (.goto (-23), 3) := by decide +kernel
theorem dX9_foldInto_121 : decode cX9_foldInto 121 = .ok (.iinc 3 1, 3) := by decide +kernel
theorem dX9_foldInto_124 : decode cX9_foldInto 124 = .ok (.goto (-37), 3) := by decide +kernel
theorem dX9_foldInto_127 : decode cX9_foldInto 127 = .ok (.lload_n 1, 1) := by decide +kernel
theorem dX9_foldInto_128 : decode cX9_foldInto 128 = .ok (.lreturn, 1) := by decide +kernel
theorem dX10_init_0 : decode cX10_init 0 = .ok (.aload_n 0, 1) := by decide +kernel
theorem dX10_init_1 : decode cX10_init 1 = .ok (.invokespecial 1, 3) := by decide +kernel
theorem dX10_init_4 : decode cX10_init 4 = .ok (.aload_n 0, 1) := by decide +kernel
theorem dX10_init_5 : decode cX10_init 5 = .ok (.new 7, 3) := by decide +kernel
theorem dX10_init_8 : decode cX10_init 8 = .ok (.dup, 1) := by decide +kernel
theorem dX10_init_9 : decode cX10_init 9 = .ok (.invokespecial 9, 3) := by decide +kernel
theorem dX10_init_12 : decode cX10_init 12 = .ok (.putfield 10, 3) := by decide +kernel
theorem dX10_init_15 : decode cX10_init 15 = .ok (.aload_n 0, 1) := by decide +kernel
theorem dX10_init_16 : decode cX10_init 16 = .ok (.new 16, 3) := by decide +kernel
theorem dX10_init_19 : decode cX10_init 19 = .ok (.dup, 1) := by decide +kernel
theorem dX10_init_20 : decode cX10_init 20 = .ok (.invokespecial 18, 3) := by decide +kernel
theorem dX10_init_23 : decode cX10_init 23 = .ok (.putfield 19, 3) := by decide +kernel
theorem dX10_init_26 : decode cX10_init 26 = .ok (.aload_n 0, 1) := by decide +kernel
theorem dX10_init_27 : decode cX10_init 27 = .ok (.new 23, 3) := by decide +kernel
theorem dX10_init_30 : decode cX10_init 30 = .ok (.dup, 1) := by decide +kernel
theorem dX10_init_31 : decode cX10_init 31 = .ok (.aload_n 0, 1) := by decide +kernel
theorem dX10_init_32 : decode cX10_init 32 = .ok (.getfield 10, 3) := by decide +kernel
theorem dX10_init_35 : decode cX10_init 35 = .ok (.invokespecial 25, 3) := by decide +kernel
theorem dX10_init_38 : decode cX10_init 38 = .ok (.putfield 28, 3) := by decide +kernel
theorem dX10_init_41 : decode cX10_init 41 = .ok (.aload_n 0, 1) := by decide +kernel
theorem dX10_init_42 : decode cX10_init 42 = .ok (.new 32, 3) := by decide +kernel
theorem dX10_init_45 : decode cX10_init 45 = .ok (.dup, 1) := by decide +kernel
theorem dX10_init_46 : decode cX10_init 46 = .ok (.aload_n 0, 1) := by decide +kernel
theorem dX10_init_47 : decode cX10_init 47 = .ok (.getfield 10, 3) := by decide +kernel
theorem dX10_init_50 : decode cX10_init 50 = .ok (.invokespecial 34, 3) := by decide +kernel
theorem dX10_init_53 : decode cX10_init 53 = .ok (.putfield 35, 3) := by decide +kernel
theorem dX10_init_56 : decode cX10_init 56 = .ok (.aload_n 0, 1) := by decide +kernel
theorem dX10_init_57 : decode cX10_init 57 = .ok (.new 39, 3) := by decide +kernel
theorem dX10_init_60 : decode cX10_init 60 = .ok (.dup, 1) := by decide +kernel
theorem dX10_init_61 : decode cX10_init 61 = .ok (.aload_n 0, 1) := by decide +kernel
theorem dX10_init_62 : decode cX10_init 62 = .ok (.getfield 10, 3) := by decide +kernel
theorem dX10_init_65 : decode cX10_init 65 = .ok (.invokespecial 41, 3) := by decide +kernel
theorem dX10_init_68 : decode cX10_init 68 = .ok (.putfield 42, 3) := by decide +kernel
theorem dX10_init_71 : decode cX10_init 71 = .ok (.aload_n 0, 1) := by decide +kernel
theorem dX10_init_72 : decode cX10_init 72 = .ok (.new 46, 3) := by decide +kernel
theorem dX10_init_75 : decode cX10_init 75 = .ok (.dup, 1) := by decide +kernel
theorem dX10_init_76 : decode cX10_init 76 = .ok (.aload_n 0, 1) := by decide +kernel
theorem dX10_init_77 : decode cX10_init 77 = .ok (.getfield 10, 3) := by decide +kernel
theorem dX10_init_80 : decode cX10_init 80 = .ok (.invokespecial 48, 3) := by decide +kernel
theorem dX10_init_83 : decode cX10_init 83 = .ok (.putfield 49, 3) := by decide +kernel
theorem dX10_init_86 : decode cX10_init 86 = .ok (.aload_n 0, 1) := by decide +kernel
theorem dX10_init_87 : decode cX10_init 87 = .ok (.new 53, 3) := by decide +kernel
theorem dX10_init_90 : decode cX10_init 90 = .ok (.dup, 1) := by decide +kernel
theorem dX10_init_91 : decode cX10_init 91 = .ok (.aload_n 0, 1) := by decide +kernel
theorem dX10_init_92 : decode cX10_init 92 = .ok (.getfield 10, 3) := by decide +kernel
theorem dX10_init_95 : decode cX10_init 95 = .ok (.aload_n 0, 1) := by decide +kernel
theorem dX10_init_96 : decode cX10_init 96 = .ok (.getfield 49, 3) := by decide +kernel
theorem dX10_init_99 : decode cX10_init 99 = .ok (.invokespecial 55, 3) := by decide +kernel
theorem dX10_init_102 : decode cX10_init 102 = .ok (.putfield 58, 3) := by decide +kernel
theorem dX10_init_105 : decode cX10_init 105 = .ok (.aload_n 0, 1) := by decide +kernel
theorem dX10_init_106 : decode cX10_init 106 = .ok (.new 62, 3) := by decide +kernel
theorem dX10_init_109 : decode cX10_init 109 = .ok (.dup, 1) := by decide +kernel
theorem dX10_init_110 : decode cX10_init 110 = .ok (.aload_n 0, 1) := by decide +kernel
theorem dX10_init_111 : decode cX10_init 111 = .ok (.getfield 10, 3) := by decide +kernel
theorem dX10_init_114 : decode cX10_init 114 = .ok (.invokespecial 64, 3) := by decide +kernel
theorem dX10_init_117 : decode cX10_init 117 = .ok (.putfield 65, 3) := by decide +kernel
theorem dX10_init_120 : decode cX10_init 120 = .ok (.aload_n 0, 1) := by decide +kernel
theorem dX10_init_121 : decode cX10_init 121 = .ok (.new 69, 3) := by decide +kernel
theorem dX10_init_124 : decode cX10_init 124 = .ok (.dup, 1) := by decide +kernel
theorem dX10_init_125 : decode cX10_init 125 = .ok (.invokespecial 71, 3) := by decide +kernel
theorem dX10_init_128 : decode cX10_init 128 = .ok (.putfield 72, 3) := by decide +kernel
theorem dX10_init_131 : decode cX10_init 131 = .ok (.aload_n 0, 1) := by decide +kernel
theorem dX10_init_132 : decode cX10_init 132 = .ok (.new 76, 3) := by decide +kernel
theorem dX10_init_135 : decode cX10_init 135 = .ok (.dup, 1) := by decide +kernel
theorem dX10_init_136 : decode cX10_init 136 = .ok (.invokespecial 78, 3) := by decide +kernel
theorem dX10_init_139 : decode cX10_init 139 = .ok (.putfield 79, 3) := by decide +kernel
theorem dX10_init_142 : decode cX10_init 142 = .ok (.return_, 1) := by decide +kernel
theorem dX10_work_0 : decode cX10_work 0 = .ok (.iload_n 1, 1) := by decide +kernel
theorem dX10_work_1 : decode cX10_work 1 = .ok (.getstatic 83, 3) := by decide +kernel
theorem dX10_work_4 : decode cX10_work 4 = .ok (.iconst 0, 1) := by decide +kernel
theorem dX10_work_5 : decode cX10_work 5 = .ok (.iaload, 1) := by decide +kernel
theorem dX10_work_6 : decode cX10_work 6 = .ok (.getstatic 87, 3) := by decide +kernel
theorem dX10_work_9 : decode cX10_work 9 = .ok (.iconst 0, 1) := by decide +kernel
theorem dX10_work_10 : decode cX10_work 10 = .ok (.iaload, 1) := by decide +kernel
theorem dX10_work_11 : decode cX10_work 11 = .ok (.invokestatic 90, 3) := by decide +kernel
theorem dX10_work_14 : decode cX10_work 14 = .ok (.ifCond .ne 6, 3) := by decide +kernel
theorem dX10_work_17 : decode cX10_work 17 = .ok (.bipush (-2), 2) := by decide +kernel
theorem dX10_work_19 : decode cX10_work 19 = .ok (.ireturn, 1) := by decide +kernel
theorem dX10_work_20 : decode cX10_work 20 = .ok (.aload_n 0, 1) := by decide +kernel
theorem dX10_work_21 : decode cX10_work 21 = .ok (.getfield 10, 3) := by decide +kernel
theorem dX10_work_24 : decode cX10_work 24 = .ok (.getfield 94, 3) := by decide +kernel
theorem dX10_work_27 : decode cX10_work 27 = .ok (.bipush 8, 2) := by decide +kernel
theorem dX10_work_29 : decode cX10_work 29 = .ok (.if_icmp .lt 6, 3) := by decide +kernel
theorem dX10_work_32 : decode cX10_work 32 = .ok (.bipush (-4), 2) := by decide +kernel
theorem dX10_work_34 : decode cX10_work 34 = .ok (.ireturn, 1) := by decide +kernel
theorem dX10_work_35 : decode cX10_work 35 = .ok (.aload_n 0, 1) := by decide +kernel
theorem dX10_work_36 : decode cX10_work 36 = .ok (.getfield 10, 3) := by decide +kernel
theorem dX10_work_39 : decode cX10_work 39 = .ok (.iload_n 1, 1) := by decide +kernel
theorem dX10_work_40 : decode cX10_work 40 = .ok (.invokevirtual 98, 3) := by decide +kernel
theorem dX10_work_43 : decode cX10_work 43 = .ok (.ireturn, 1) := by decide +kernel
theorem dX10_put_0 : decode cX10_put 0 = .ok (.aload_n 0, 1) := by decide +kernel
theorem dX10_put_1 : decode cX10_put 1 = .ok (.getfield 10, 3) := by decide +kernel
theorem dX10_put_4 : decode cX10_put 4 = .ok (.iload_n 1, 1) := by decide +kernel
theorem dX10_put_5 : decode cX10_put 5 = .ok (.invokevirtual 102, 3) := by decide +kernel
theorem dX10_put_8 : decode cX10_put 8 = .ok (.ifCond .eq 29, 3) := by decide +kernel
theorem dX10_put_11 : decode cX10_put 11 = .ok (.iload_n 2, 1) := by decide +kernel
theorem dX10_put_12 : decode cX10_put 12 = .ok (.iconst 0, 1) := by decide +kernel
theorem dX10_put_13 : decode cX10_put 13 = .ok (.iconst 4, 1) := by decide +kernel
theorem dX10_put_14 : decode cX10_put 14 = .ok (.invokestatic 90, 3) := by decide +kernel
theorem dX10_put_17 : decode cX10_put 17 = .ok (.ifCond .eq 20, 3) := by decide +kernel
theorem dX10_put_20 : decode cX10_put 20 = .ok (.iload_n 3, 1) := by decide +kernel
theorem dX10_put_21 : decode cX10_put 21 = .ok (.getstatic 83, 3) := by decide +kernel
theorem dX10_put_24 : decode cX10_put 24 = .ok (.iload_n 2, 1) := by decide +kernel
theorem dX10_put_25 : decode cX10_put 25 = .ok (.iaload, 1) := by decide +kernel
theorem dX10_put_26 : decode cX10_put 26 = .ok (.getstatic 87, 3) := by decide +kernel
theorem dX10_put_29 : decode cX10_put 29 = .ok (.iload_n 2, 1) := by decide +kernel
theorem dX10_put_30 : decode cX10_put 30 = .ok (.iaload, 1) := by decide +kernel
theorem dX10_put_31 : decode cX10_put 31 = .ok (.invokestatic 90, 3) := by decide +kernel
theorem dX10_put_34 : decode cX10_put 34 = .ok (.ifCond .ne 6, 3) := by decide +kernel
theorem dX10_put_37 : decode cX10_put 37 = .ok (.bipush (-2), 2) := by decide +kernel
theorem dX10_put_39 : decode cX10_put 39 = .ok (.ireturn, 1) := by decide +kernel
theorem dX10_put_40 : decode cX10_put 40 = .ok (.aload_n 0, 1) := by decide +kernel
theorem dX10_put_41 : decode cX10_put 41 = .ok (.getfield 10, 3) := by decide +kernel
theorem dX10_put_44 : decode cX10_put 44 = .ok (.getfield 106, 3) := by decide +kernel
theorem dX10_put_47 : decode cX10_put 47 = .ok (.iload_n 2, 1) := by decide +kernel
theorem dX10_put_48 : decode cX10_put 48 = .ok (.aaload, 1) := by decide +kernel
theorem dX10_put_49 : decode cX10_put 49 = .ok (.iload_n 1, 1) := by decide +kernel
theorem dX10_put_50 : decode cX10_put 50 = .ok (.iaload, 1) := by decide +kernel
theorem dX10_put_51 : decode cX10_put 51 = .ok (.istore 4, 2) := by decide +kernel
theorem dX10_put_53 : decode cX10_put 53 = .ok (.aload_n 0, 1) := by decide +kernel
theorem dX10_put_54 : decode cX10_put 54 = .ok (.getfield 10, 3) := by decide +kernel
theorem dX10_put_57 : decode cX10_put 57 = .ok (.getfield 106, 3) := by decide +kernel
theorem dX10_put_60 : decode cX10_put 60 = .ok (.iload_n 2, 1) := by decide +kernel
theorem dX10_put_61 : decode cX10_put 61 = .ok (.aaload, 1) := by decide +kernel
theorem dX10_put_62 : decode cX10_put 62 = .ok (.iload_n 1, 1) := by decide +kernel
theorem dX10_put_63 : decode cX10_put 63 = .ok (.iload_n 3, 1) := by decide +kernel
theorem dX10_put_64 : decode cX10_put 64 = .ok (.iastore, 1) := by decide +kernel
theorem dX10_put_65 : decode cX10_put 65 = .ok (.iload 4, 2) := by decide +kernel
theorem dX10_put_67 : decode cX10_put 67 = .ok (.ireturn, 1) := by decide +kernel
theorem dX10_ahead_0 : decode cX10_ahead 0 = .ok (.aload_n 0, 1) := by decide +kernel
theorem dX10_ahead_1 : decode cX10_ahead 1 = .ok (.getfield 10, 3) := by decide +kernel
theorem dX10_ahead_4 : decode cX10_ahead 4 = .ok (.iload_n 1, 1) := by decide +kernel
theorem dX10_ahead_5 : decode cX10_ahead 5 = .ok (.invokevirtual 102, 3) := by decide +kernel
theorem dX10_ahead_8 : decode cX10_ahead 8 = .ok (.ifCond .eq 19, 3) := by decide +kernel
theorem dX10_ahead_11 : decode cX10_ahead 11 = .ok (.aload_n 0, 1) := by decide +kernel
theorem dX10_ahead_12 : decode cX10_ahead 12 = .ok (.getfield 10, 3) := by decide +kernel
theorem dX10_ahead_15 : decode cX10_ahead 15 = .ok (.iload_n 2, 1) := by decide +kernel
theorem dX10_ahead_16 : decode cX10_ahead 16 = .ok (.invokevirtual 102, 3) := by decide +kernel
theorem dX10_ahead_19 : decode cX10_ahead 19 = .ok (.ifCond .eq 8, 3) := by decide +kernel
theorem dX10_ahead_22 : decode cX10_ahead 22 = .ok (.iload_n 1, 1) := by decide +kernel
theorem dX10_ahead_23 : decode cX10_ahead 23 = .ok (.iload_n 2, 1) := by decide +kernel
theorem dX10_ahead_24 : decode cX10_ahead 24 = .ok (.if_icmp .ne 6, 3) := by decide +kernel
theorem dX10_ahead_27 : decode cX10_ahead 27 = .ok (.bipush (-2), 2) := by decide +kernel
theorem dX10_ahead_29 : decode cX10_ahead 29 = .ok (.ireturn, 1) := by decide +kernel
theorem dX10_ahead_30 : decode cX10_ahead 30 = .ok (.aload_n 0, 1) := by decide +kernel
theorem dX10_ahead_31 : decode cX10_ahead 31 = .ok (.getfield 10, 3) := by decide +kernel
theorem dX10_ahead_34 : decode cX10_ahead 34 = .ok (.iload_n 1, 1) := by decide +kernel
theorem dX10_ahead_35 : decode cX10_ahead 35 = .ok (.iload_n 2, 1) := by decide +kernel
theorem dX10_ahead_36 : decode cX10_ahead 36 = .ok (.invokevirtual 110, 3) := by decide +kernel
theorem dX10_ahead_39 : decode cX10_ahead 39 = .ok (.iload_n 3, 1) := by decide +kernel
theorem dX10_ahead_40 : decode cX10_ahead 40 = .ok (.if_icmp .eq 15, 3) := by decide +kernel
theorem dX10_ahead_43 : decode cX10_ahead 43 = .ok (.aload_n 0, 1) := by decide +kernel
theorem dX10_ahead_44 : decode cX10_ahead 44 = .ok (.getfield 10, 3) := by decide +kernel
theorem dX10_ahead_47 : decode cX10_ahead 47 = .ok (.iload_n 2, 1) := by decide +kernel
theorem dX10_ahead_48 : decode cX10_ahead 48 = .ok (.iload_n 1, 1) := by decide +kernel
theorem dX10_ahead_49 : decode cX10_ahead 49 = .ok (.invokevirtual 114, 3) := by decide +kernel
theorem dX10_ahead_52 : decode cX10_ahead 52 = .ok (.ifCond .eq 6, 3) := by decide +kernel
theorem dX10_ahead_55 : decode cX10_ahead 55 = .ok (.bipush (-3), 2) := by decide +kernel
theorem dX10_ahead_57 : decode cX10_ahead 57 = .ok (.ireturn, 1) := by decide +kernel
theorem dX10_ahead_58 : decode cX10_ahead 58 = .ok (.aload_n 0, 1) := by decide +kernel
theorem dX10_ahead_59 : decode cX10_ahead 59 = .ok (.getfield 10, 3) := by decide +kernel
theorem dX10_ahead_62 : decode cX10_ahead 62 = .ok (.iload_n 1, 1) := by decide +kernel
theorem dX10_ahead_63 : decode cX10_ahead 63 = .ok (.iload_n 2, 1) := by decide +kernel
theorem dX10_ahead_64 : decode cX10_ahead 64 = .ok (.iload_n 3, 1) := by decide +kernel
theorem dX10_ahead_65 : decode cX10_ahead 65 = .ok (.invokevirtual 117, 3) := by decide +kernel
theorem dX10_ahead_68 : decode cX10_ahead 68 = .ok (.iconst 1, 1) := by decide +kernel
theorem dX10_ahead_69 : decode cX10_ahead 69 = .ok (.ireturn, 1) := by decide +kernel
theorem dX10_change_0 : decode cX10_change 0 = .ok (.iload_n 1, 1) := by decide +kernel
theorem dX10_change_1 : decode cX10_change 1 = .ok (.iconst 0, 1) := by decide +kernel
theorem dX10_change_2 : decode cX10_change 2 = .ok (.iconst 2, 1) := by decide +kernel
theorem dX10_change_3 : decode cX10_change 3 = .ok (.invokestatic 90, 3) := by decide +kernel
theorem dX10_change_6 : decode cX10_change 6 = .ok (.ifCond .eq 27, 3) := by decide +kernel
theorem dX10_change_9 : decode cX10_change 9 = .ok (.iload_n 2, 1) := by decide +kernel
theorem dX10_change_10 : decode cX10_change 10 = .ok (.iconst 0, 1) := by decide +kernel
theorem dX10_change_11 : decode cX10_change 11 = .ok (.iconst 2, 1) := by decide +kernel
theorem dX10_change_12 : decode cX10_change 12 = .ok (.invokestatic 90, 3) := by decide +kernel
theorem dX10_change_15 : decode cX10_change 15 = .ok (.ifCond .eq 18, 3) := by decide +kernel
theorem dX10_change_18 : decode cX10_change 18 = .ok (.iload_n 1, 1) := by decide +kernel
theorem dX10_change_19 : decode cX10_change 19 = .ok (.iload_n 2, 1) := by decide +kernel
theorem dX10_change_20 : decode cX10_change 20 = .ok (.if_icmp .eq 13, 3) := by decide +kernel
theorem dX10_change_23 : decode cX10_change 23 = .ok (.iload_n 3, 1) := by decide +kernel
theorem dX10_change_24 : decode cX10_change 24 = .ok (.iconst 0, 1) := by decide +kernel
theorem dX10_change_25 : decode cX10_change 25 = .ok (.bipush 20, 2) := by decide +kernel
theorem dX10_change_27 : decode cX10_change 27 = .ok (.invokestatic 90, 3) := by decide +kernel
theorem dX10_change_30 : decode cX10_change 30 = .ok (.ifCond .ne 6, 3) := by decide +kernel
theorem dX10_change_33 : decode cX10_change 33 = .ok (.bipush (-2), 2) := by decide +kernel
theorem dX10_change_35 : decode cX10_change 35 = .ok (.ireturn, 1) := by decide +kernel
theorem dX10_change_36 : decode cX10_change 36 = .ok (.aload_n 0, 1) := by decide +kernel
theorem dX10_change_37 : decode cX10_change 37 = .ok (.getfield 10, 3) := by decide +kernel
theorem dX10_change_40 : decode cX10_change 40 = .ok (.getfield 121, 3) := by decide +kernel
theorem dX10_change_43 : decode cX10_change 43 = .ok (.iload_n 1, 1) := by decide +kernel
theorem dX10_change_44 : decode cX10_change 44 = .ok (.aaload, 1) := by decide +kernel
theorem dX10_change_45 : decode cX10_change 45 = .ok (.iload_n 2, 1) := by decide +kernel
theorem dX10_change_46 : decode cX10_change 46 = .ok (.iaload, 1) := by decide +kernel
theorem dX10_change_47 : decode cX10_change 47 = .ok (.istore 4, 2) := by decide +kernel
theorem dX10_change_49 : decode cX10_change 49 = .ok (.aload_n 0, 1) := by decide +kernel
theorem dX10_change_50 : decode cX10_change 50 = .ok (.getfield 10, 3) := by decide +kernel
theorem dX10_change_53 : decode cX10_change 53 = .ok (.getfield 121, 3) := by decide +kernel
theorem dX10_change_56 : decode cX10_change 56 = .ok (.iload_n 1, 1) := by decide +kernel
theorem dX10_change_57 : decode cX10_change 57 = .ok (.aaload, 1) := by decide +kernel
theorem dX10_change_58 : decode cX10_change 58 = .ok (.iload_n 2, 1) := by decide +kernel
theorem dX10_change_59 : decode cX10_change 59 = .ok (.iload_n 3, 1) := by decide +kernel
theorem dX10_change_60 : decode cX10_change 60 = .ok (.iastore, 1) := by decide +kernel
theorem dX10_change_61 : decode cX10_change 61 = .ok (.iload 4, 2) := by decide +kernel
theorem dX10_change_63 : decode cX10_change 63 = .ok (.ireturn, 1) := by decide +kernel
theorem dX10_best_0 : decode cX10_best 0 = .ok (.iload_n 1, 1) := by decide +kernel
theorem dX10_best_1 : decode cX10_best 1 = .ok (.iconst 0, 1) := by decide +kernel
theorem dX10_best_2 : decode cX10_best 2 = .ok (.iconst 4, 1) := by decide +kernel
theorem dX10_best_3 : decode cX10_best 3 = .ok (.invokestatic 90, 3) := by decide +kernel
theorem dX10_best_6 : decode cX10_best 6 = .ok (.ifCond .eq 20, 3) := by decide +kernel
theorem dX10_best_9 : decode cX10_best 9 = .ok (.iload_n 2, 1) := by decide +kernel
theorem dX10_best_10 : decode cX10_best 10 = .ok (.iconst (-1), 1) := by decide +kernel
theorem dX10_best_11 : decode cX10_best 11 = .ok (.aload_n 0, 1) := by decide +kernel
theorem dX10_best_12 : decode cX10_best 12 = .ok (.getfield 10, 3) := by decide +kernel
theorem dX10_best_15 : decode cX10_best 15 = .ok (.getfield 94, 3) := by decide +kernel
theorem dX10_best_18 : decode cX10_best 18 = .ok (.iconst 1, 1) := by decide +kernel
theorem dX10_best_19 : decode cX10_best 19 = .ok (.isub, 1) := by decide +kernel
theorem dX10_best_20 : decode cX10_best 20 = .ok (.invokestatic 90, 3) := by decide +kernel
theorem dX10_best_23 : decode cX10_best 23 = .ok (.ifCond .ne 6, 3) := by decide +kernel
theorem dX10_best_26 : decode cX10_best 26 = .ok (.bipush (-10), 2) := by decide +kernel
theorem dX10_best_28 : decode cX10_best 28 = .ok (.ireturn, 1) := by decide +kernel
theorem dX10_best_29 : decode cX10_best 29 = .ok (.aload_n 0, 1) := by decide +kernel
theorem dX10_best_30 : decode cX10_best 30 = .ok (.getfield 28, 3) := by decide +kernel
theorem dX10_best_33 : decode cX10_best 33 = .ok (.iload_n 1, 1) := by decide +kernel
theorem dX10_best_34 : decode cX10_best 34 = .ok (.invokevirtual 124, 3) := by decide +kernel
theorem dX10_best_37 : decode cX10_best 37 = .ok (.iload_n 2, 1) := by decide +kernel
theorem dX10_best_38 : decode cX10_best 38 = .ok (.iconst (-1), 1) := by decide +kernel
theorem dX10_best_39 : decode cX10_best 39 = .ok (.if_icmp .ne 13, 3) := by decide +kernel
theorem dX10_best_42 : decode cX10_best 42 = .ok (.aload_n 0, 1) := by decide +kernel
theorem dX10_best_43 : decode cX10_best 43 = .ok (.getfield 28, 3) := by decide +kernel
theorem dX10_best_46 : decode cX10_best 46 = .ok (.getfield 128, 3) := by decide +kernel
theorem dX10_best_49 : decode cX10_best 49 = .ok (.goto 12, 3) := by decide +kernel
theorem dX10_best_52 : decode cX10_best 52 = .ok (.aload_n 0, 1) := by decide +kernel
theorem dX10_best_53 : decode cX10_best 53 = .ok (.getfield 28, 3) := by decide +kernel
theorem dX10_best_56 : decode cX10_best 56 = .ok (.getfield 131, 3) := by decide +kernel
theorem dX10_best_59 : decode cX10_best 59 = .ok (.iload_n 2, 1) := by decide +kernel
theorem dX10_best_60 : decode cX10_best 60 = .ok (.iaload, 1) := by decide +kernel
theorem dX10_best_61 : decode cX10_best 61 = .ok (.ireturn, 1) := by decide +kernel
theorem dX10_lastFirst_0 : decode cX10_lastFirst 0 = .ok (.iload_n 1, 1) := by decide +kernel
theorem dX10_lastFirst_1 : decode cX10_lastFirst 1 = .ok (.iconst (-1), 1) := by decide +kernel
theorem dX10_lastFirst_2 : decode cX10_lastFirst 2 = .ok (.aload_n 0, 1) := by decide +kernel
theorem dX10_lastFirst_3 : decode cX10_lastFirst 3 = .ok (.getfield 10, 3) := by decide +kernel
theorem dX10_lastFirst_6 : decode cX10_lastFirst 6 = .ok (.getfield 94, 3) := by decide +kernel
theorem dX10_lastFirst_9 : decode cX10_lastFirst 9 = .ok (.iconst 1, 1) := by decide +kernel
theorem dX10_lastFirst_10 : decode cX10_lastFirst 10 = .ok (.isub, 1) := by decide +kernel
theorem dX10_lastFirst_11 : decode cX10_lastFirst 11 = .ok (.invokestatic 90, 3) := by decide +kernel
theorem dX10_lastFirst_14 : decode cX10_lastFirst 14 = .ok (.ifCond .ne 6, 3) := by decide +kernel
theorem dX10_lastFirst_17 : decode cX10_lastFirst 17 = .ok (.bipush (-10), 2) := by decide +kernel
theorem dX10_lastFirst_19 : decode cX10_lastFirst 19 = .ok (.ireturn, 1) := by decide +kernel
theorem dX10_lastFirst_20 : decode cX10_lastFirst 20 = .ok (.aload_n 0, 1) := by decide +kernel
theorem dX10_lastFirst_21 : decode cX10_lastFirst 21 = .ok (.getfield 35, 3) := by decide +kernel
theorem dX10_lastFirst_24 : decode cX10_lastFirst 24 = .ok (.invokevirtual 134, 3) := by decide +kernel
theorem dX10_lastFirst_27 : decode cX10_lastFirst 27 = .ok (.iload_n 1, 1) := by decide +kernel
theorem dX10_lastFirst_28 : decode cX10_lastFirst 28 = .ok (.iconst (-1), 1) := by decide +kernel
theorem dX10_lastFirst_29 : decode cX10_lastFirst 29 = .ok (.if_icmp .ne 13, 3) := by decide +kernel
theorem dX10_lastFirst_32 : decode cX10_lastFirst 32 = .ok (.aload_n 0, 1) := by decide +kernel
theorem dX10_lastFirst_33 : decode cX10_lastFirst 33 = .ok (.getfield 35, 3) := by decide +kernel
theorem dX10_lastFirst_36 : decode cX10_lastFirst 36 = .ok (.getfield 137, 3) := by decide +kernel
theorem dX10_lastFirst_39 : decode cX10_lastFirst 39 = .ok (.goto 12, 3) := by decide +kernel
theorem dX10_lastFirst_42 : decode cX10_lastFirst 42 = .ok (.aload_n 0, 1) := by decide +kernel
theorem dX10_lastFirst_43 : decode cX10_lastFirst 43 = .ok (.getfield 35, 3) := by decide +kernel
theorem dX10_lastFirst_46 : decode cX10_lastFirst 46 = .ok (.getfield 140, 3) := by decide +kernel
theorem dX10_lastFirst_49 : decode cX10_lastFirst 49 = .ok (.iload_n 1, 1) := by decide +kernel
theorem dX10_lastFirst_50 : decode cX10_lastFirst 50 = .ok (.iaload, 1) := by decide +kernel
theorem dX10_lastFirst_51 : decode cX10_lastFirst 51 = .ok (.ireturn, 1) := by decide +kernel
theorem dX10_onTime_0 : decode cX10_onTime 0 = .ok (.aload_n 0, 1) := by decide +kernel
theorem dX10_onTime_1 : decode cX10_onTime 1 = .ok (.getfield 35, 3) := by decide +kernel
theorem dX10_onTime_4 : decode cX10_onTime 4 = .ok (.invokevirtual 141, 3) := by decide +kernel
theorem dX10_onTime_7 : decode cX10_onTime 7 = .ok (.ireturn, 1) := by decide +kernel
theorem dX10_broken_0 : decode cX10_broken 0 = .ok (.iload_n 1, 1) := by decide +kernel
theorem dX10_broken_1 : decode cX10_broken 1 = .ok (.iconst 0, 1) := by decide +kernel
theorem dX10_broken_2 : decode cX10_broken 2 = .ok (.iconst 2, 1) := by decide +kernel
theorem dX10_broken_3 : decode cX10_broken 3 = .ok (.invokestatic 90, 3) := by decide +kernel
theorem dX10_broken_6 : decode cX10_broken 6 = .ok (.ifCond .ne 6, 3) := by decide +kernel
theorem dX10_broken_9 : decode cX10_broken 9 = .ok (.bipush (-2), 2) := by decide +kernel
theorem dX10_broken_11 : decode cX10_broken 11 = .ok (.ireturn, 1) := by decide +kernel
theorem dX10_broken_12 : decode cX10_broken 12 = .ok (.aload_n 0, 1) := by decide +kernel
theorem dX10_broken_13 : decode cX10_broken 13 = .ok (.getfield 42, 3) := by decide +kernel
theorem dX10_broken_16 : decode cX10_broken 16 = .ok (.invokevirtual 145, 3) := by decide +kernel
theorem dX10_broken_19 : decode cX10_broken 19 = .ok (.istore_n 2, 1) := by decide +kernel
theorem dX10_broken_20 : decode cX10_broken 20 = .ok (.iload_n 1, 1) := by decide +kernel
theorem dX10_broken_21 : decode cX10_broken 21 = .ok (.ifCond .ne 5, 3) := by decide +kernel
theorem dX10_broken_24 : decode cX10_broken 24 = .ok (.iload_n 2, 1) := by decide +kernel
theorem dX10_broken_25 : decode cX10_broken 25 = .ok (.ireturn, 1) := by decide +kernel
theorem dX10_broken_26 : decode cX10_broken 26 = .ok (.iload_n 2, 1) := by decide +kernel
theorem dX10_broken_27 : decode cX10_broken 27 = .ok (.ifCond .ne 5, 3) := by decide +kernel
theorem dX10_broken_30 : decode cX10_broken 30 = .ok (.iconst (-1), 1) := by decide +kernel
theorem dX10_broken_31 : decode cX10_broken 31 = .ok (.ireturn, 1) := by decide +kernel
theorem dX10_broken_32 : decode cX10_broken 32 = .ok (.aload_n 0, 1) := by decide +kernel
