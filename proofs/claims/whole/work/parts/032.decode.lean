theorem dX10_broken_33 : decode cX10_broken 33 = .ok (.getfield 42, 3) := by decide +kernel
theorem dX10_broken_36 : decode cX10_broken 36 = .ok (.invokevirtual 147, 3) := by decide +kernel
theorem dX10_broken_39 : decode cX10_broken 39 = .ok (.iload_n 1, 1) := by decide +kernel
theorem dX10_broken_40 : decode cX10_broken 40 = .ok (.iconst 1, 1) := by decide +kernel
theorem dX10_broken_41 : decode cX10_broken 41 = .ok (.if_icmp .ne 13, 3) := by decide +kernel
theorem dX10_broken_44 : decode cX10_broken 44 = .ok (.aload_n 0, 1) := by decide +kernel
theorem dX10_broken_45 : decode cX10_broken 45 = .ok (.getfield 42, 3) := by decide +kernel
theorem dX10_broken_48 : decode cX10_broken 48 = .ok (.getfield 150, 3) := by decide +kernel
theorem dX10_broken_51 : decode cX10_broken 51 = .ok (.goto 10, 3) := by decide +kernel
theorem dX10_broken_54 : decode cX10_broken 54 = .ok (.aload_n 0, 1) := by decide +kernel
theorem dX10_broken_55 : decode cX10_broken 55 = .ok (.getfield 42, 3) := by decide +kernel
theorem dX10_broken_58 : decode cX10_broken 58 = .ok (.getfield 153, 3) := by decide +kernel
theorem dX10_broken_61 : decode cX10_broken 61 = .ok (.ireturn, 1) := by decide +kernel
theorem dX10_minute_0 : decode cX10_minute 0 = .ok (.iload_n 1, 1) := by decide +kernel
theorem dX10_minute_1 : decode cX10_minute 1 = .ok (.iconst 0, 1) := by decide +kernel
theorem dX10_minute_2 : decode cX10_minute 2 = .ok (.sipush 999, 3) := by decide +kernel
theorem dX10_minute_5 : decode cX10_minute 5 = .ok (.invokestatic 90, 3) := by decide +kernel
theorem dX10_minute_8 : decode cX10_minute 8 = .ok (.ifCond .ne 6, 3) := by decide +kernel
theorem dX10_minute_11 : decode cX10_minute 11 = .ok (.bipush (-10), 2) := by decide +kernel
theorem dX10_minute_13 : decode cX10_minute 13 = .ok (.ireturn, 1) := by decide +kernel
theorem dX10_minute_14 : decode cX10_minute 14 = .ok (.aload_n 0, 1) := by decide +kernel
theorem dX10_minute_15 : decode cX10_minute 15 = .ok (.getfield 42, 3) := by decide +kernel
theorem dX10_minute_18 : decode cX10_minute 18 = .ok (.iload_n 1, 1) := by decide +kernel
theorem dX10_minute_19 : decode cX10_minute 19 = .ok (.invokevirtual 156, 3) := by decide +kernel
theorem dX10_minute_22 : decode cX10_minute 22 = .ok (.ireturn, 1) := by decide +kernel
theorem dX10_next_0 : decode cX10_next 0 = .ok (.aload_n 0, 1) := by decide +kernel
theorem dX10_next_1 : decode cX10_next 1 = .ok (.getfield 10, 3) := by decide +kernel
theorem dX10_next_4 : decode cX10_next 4 = .ok (.iload_n 1, 1) := by decide +kernel
theorem dX10_next_5 : decode cX10_next 5 = .ok (.invokevirtual 102, 3) := by decide +kernel
theorem dX10_next_8 : decode cX10_next 8 = .ok (.ifCond .eq 14, 3) := by decide +kernel
theorem dX10_next_11 : decode cX10_next 11 = .ok (.aload_n 0, 1) := by decide +kernel
theorem dX10_next_12 : decode cX10_next 12 = .ok (.getfield 19, 3) := by decide +kernel
theorem dX10_next_15 : decode cX10_next 15 = .ok (.iload_n 1, 1) := by decide +kernel
theorem dX10_next_16 : decode cX10_next 16 = .ok (.invokevirtual 159, 3) := by decide +kernel
theorem dX10_next_19 : decode cX10_next 19 = .ok (.ifCond .eq 6, 3) := by decide +kernel
theorem dX10_next_22 : decode cX10_next 22 = .ok (.bipush (-2), 2) := by decide +kernel
theorem dX10_next_24 : decode cX10_next 24 = .ok (.ireturn, 1) := by decide +kernel
theorem dX10_next_25 : decode cX10_next 25 = .ok (.aload_n 0, 1) := by decide +kernel
theorem dX10_next_26 : decode cX10_next 26 = .ok (.getfield 19, 3) := by decide +kernel
theorem dX10_next_29 : decode cX10_next 29 = .ok (.iload_n 1, 1) := by decide +kernel
theorem dX10_next_30 : decode cX10_next 30 = .ok (.invokevirtual 162, 3) := by decide +kernel
theorem dX10_next_33 : decode cX10_next 33 = .ok (.ireturn, 1) := by decide +kernel
theorem dX10_anew_0 : decode cX10_anew 0 = .ok (.aload_n 0, 1) := by decide +kernel
theorem dX10_anew_1 : decode cX10_anew 1 = .ok (.getfield 19, 3) := by decide +kernel
theorem dX10_anew_4 : decode cX10_anew 4 = .ok (.invokevirtual 163, 3) := by decide +kernel
theorem dX10_anew_7 : decode cX10_anew 7 = .ok (.ireturn, 1) := by decide +kernel
theorem dX10_judge_0 : decode cX10_judge 0 = .ok (.iload_n 1, 1) := by decide +kernel
theorem dX10_judge_1 : decode cX10_judge 1 = .ok (.iconst 0, 1) := by decide +kernel
theorem dX10_judge_2 : decode cX10_judge 2 = .ok (.iconst 5, 1) := by decide +kernel
theorem dX10_judge_3 : decode cX10_judge 3 = .ok (.invokestatic 90, 3) := by decide +kernel
theorem dX10_judge_6 : decode cX10_judge 6 = .ok (.ifCond .ne 6, 3) := by decide +kernel
theorem dX10_judge_9 : decode cX10_judge 9 = .ok (.bipush (-10), 2) := by decide +kernel
theorem dX10_judge_11 : decode cX10_judge 11 = .ok (.ireturn, 1) := by decide +kernel
theorem dX10_judge_12 : decode cX10_judge 12 = .ok (.aload_n 0, 1) := by decide +kernel
theorem dX10_judge_13 : decode cX10_judge 13 = .ok (.getfield 19, 3) := by decide +kernel
theorem dX10_judge_16 : decode cX10_judge 16 = .ok (.getfield 166, 3) := by decide +kernel
theorem dX10_judge_19 : decode cX10_judge 19 = .ok (.aload_n 0, 1) := by decide +kernel
theorem dX10_judge_20 : decode cX10_judge 20 = .ok (.getfield 10, 3) := by decide +kernel
theorem dX10_judge_23 : decode cX10_judge 23 = .ok (.getfield 94, 3) := by decide +kernel
theorem dX10_judge_26 : decode cX10_judge 26 = .ok (.if_icmp .eq 6, 3) := by decide +kernel
theorem dX10_judge_29 : decode cX10_judge 29 = .ok (.bipush (-20), 2) := by decide +kernel
theorem dX10_judge_31 : decode cX10_judge 31 = .ok (.ireturn, 1) := by decide +kernel
theorem dX10_judge_32 : decode cX10_judge 32 = .ok (.iload_n 1, 1) := by decide +kernel
theorem dX10_judge_33 : decode cX10_judge 33 = .ok (.iconst 5, 1) := by decide +kernel
theorem dX10_judge_34 : decode cX10_judge 34 = .ok (.if_icmp .ne 18, 3) := by decide +kernel
theorem dX10_judge_37 : decode cX10_judge 37 = .ok (.aload_n 0, 1) := by decide +kernel
theorem dX10_judge_38 : decode cX10_judge 38 = .ok (.getfield 49, 3) := by decide +kernel
theorem dX10_judge_41 : decode cX10_judge 41 = .ok (.aload_n 0, 1) := by decide +kernel
theorem dX10_judge_42 : decode cX10_judge 42 = .ok (.getfield 19, 3) := by decide +kernel
theorem dX10_judge_45 : decode cX10_judge 45 = .ok (.getfield 167, 3) := by decide +kernel
theorem dX10_judge_48 : decode cX10_judge 48 = .ok (.invokevirtual 168, 3) := by decide +kernel
theorem dX10_judge_51 : decode cX10_judge 51 = .ok (.ireturn, 1) := by decide +kernel
theorem dX10_judge_52 : decode cX10_judge 52 = .ok (.aload_n 0, 1) := by decide +kernel
theorem dX10_judge_53 : decode cX10_judge 53 = .ok (.getfield 10, 3) := by decide +kernel
theorem dX10_judge_56 : decode cX10_judge 56 = .ok (.aload_n 0, 1) := by decide +kernel
theorem dX10_judge_57 : decode cX10_judge 57 = .ok (.getfield 19, 3) := by decide +kernel
theorem dX10_judge_60 : decode cX10_judge 60 = .ok (.getfield 167, 3) := by decide +kernel
theorem dX10_judge_63 : decode cX10_judge 63 = .ok (.invokevirtual 172, 3) := by decide +kernel
theorem dX10_judge_66 : decode cX10_judge 66 = .ok (.ifCond .eq 21, 3) := by decide +kernel
theorem dX10_judge_69 : decode cX10_judge 69 = .ok (.aload_n 0, 1) := by decide +kernel
theorem dX10_judge_70 : decode cX10_judge 70 = .ok (.getfield 10, 3) := by decide +kernel
theorem dX10_judge_73 : decode cX10_judge 73 = .ok (.iload_n 1, 1) := by decide +kernel
theorem dX10_judge_74 : decode cX10_judge 74 = .ok (.aload_n 0, 1) := by decide +kernel
theorem dX10_judge_75 : decode cX10_judge 75 = .ok (.getfield 19, 3) := by decide +kernel
theorem dX10_judge_78 : decode cX10_judge 78 = .ok (.getfield 167, 3) := by decide +kernel
theorem dX10_judge_81 : decode cX10_judge 81 = .ok (.invokevirtual 176, 3) := by decide +kernel
theorem dX10_judge_84 : decode cX10_judge 84 = .ok (.goto 5, 3) := by decide +kernel
theorem dX10_judge_87 : decode cX10_judge 87 = .ok (.bipush (-20), 2) := by decide +kernel
theorem dX10_judge_89 : decode cX10_judge 89 = .ok (.ireturn, 1) := by decide +kernel
theorem dX10_benches_0 : decode cX10_benches 0 = .ok (.iload_n 1, 1) := by decide +kernel
theorem dX10_benches_1 : decode cX10_benches 1 = .ok (.iconst 2, 1) := by decide +kernel
theorem dX10_benches_2 : decode cX10_benches 2 = .ok (.iconst 4, 1) := by decide +kernel
theorem dX10_benches_3 : decode cX10_benches 3 = .ok (.invokestatic 90, 3) := by decide +kernel
theorem dX10_benches_6 : decode cX10_benches 6 = .ok (.ifCond .ne 6, 3) := by decide +kernel
theorem dX10_benches_9 : decode cX10_benches 9 = .ok (.bipush (-2), 2) := by decide +kernel
theorem dX10_benches_11 : decode cX10_benches 11 = .ok (.ireturn, 1) := by decide +kernel
theorem dX10_benches_12 : decode cX10_benches 12 = .ok (.aload_n 0, 1) := by decide +kernel
theorem dX10_benches_13 : decode cX10_benches 13 = .ok (.getfield 49, 3) := by decide +kernel
theorem dX10_benches_16 : decode cX10_benches 16 = .ok (.getfield 180, 3) := by decide +kernel
theorem dX10_benches_19 : decode cX10_benches 19 = .ok (.istore_n 2, 1) := by decide +kernel
theorem dX10_benches_20 : decode cX10_benches 20 = .ok (.aload_n 0, 1) := by decide +kernel
theorem dX10_benches_21 : decode cX10_benches 21 = .ok (.getfield 49, 3) := by decide +kernel
theorem dX10_benches_24 : decode cX10_benches 24 = .ok (.iload_n 1, 1) := by decide +kernel
theorem dX10_benches_25 : decode cX10_benches 25 = .ok (.putfield 180, 3) := by decide +kernel
theorem dX10_benches_28 : decode cX10_benches 28 = .ok (.iload_n 2, 1) := by decide +kernel
theorem dX10_benches_29 : decode cX10_benches 29 = .ok (.ireturn, 1) := by decide +kernel
theorem dX10_needs_0 : decode cX10_needs 0 = .ok (.aload_n 0, 1) := by decide +kernel
theorem dX10_needs_1 : decode cX10_needs 1 = .ok (.getfield 10, 3) := by decide +kernel
theorem dX10_needs_4 : decode cX10_needs 4 = .ok (.iload_n 1, 1) := by decide +kernel
theorem dX10_needs_5 : decode cX10_needs 5 = .ok (.invokevirtual 102, 3) := by decide +kernel
theorem dX10_needs_8 : decode cX10_needs 8 = .ok (.ifCond .eq 22, 3) := by decide +kernel
theorem dX10_needs_11 : decode cX10_needs 11 = .ok (.iload_n 2, 1) := by decide +kernel
theorem dX10_needs_12 : decode cX10_needs 12 = .ok (.iconst 0, 1) := by decide +kernel
theorem dX10_needs_13 : decode cX10_needs 13 = .ok (.iconst 3, 1) := by decide +kernel
theorem dX10_needs_14 : decode cX10_needs 14 = .ok (.invokestatic 90, 3) := by decide +kernel
theorem dX10_needs_17 : decode cX10_needs 17 = .ok (.ifCond .eq 13, 3) := by decide +kernel
theorem dX10_needs_20 : decode cX10_needs 20 = .ok (.iload_n 3, 1) := by decide +kernel
theorem dX10_needs_21 : decode cX10_needs 21 = .ok (.iconst 1, 1) := by decide +kernel
theorem dX10_needs_22 : decode cX10_needs 22 = .ok (.bipush 40, 2) := by decide +kernel
theorem dX10_needs_24 : decode cX10_needs 24 = .ok (.invokestatic 90, 3) := by decide +kernel
theorem dX10_needs_27 : decode cX10_needs 27 = .ok (.ifCond .ne 6, 3) := by decide +kernel
theorem dX10_needs_30 : decode cX10_needs 30 = .ok (.bipush (-2), 2) := by decide +kernel
theorem dX10_needs_32 : decode cX10_needs 32 = .ok (.ireturn, 1) := by decide +kernel
theorem dX10_needs_33 : decode cX10_needs 33 = .ok (.aload_n 0, 1) := by decide +kernel
theorem dX10_needs_34 : decode cX10_needs 34 = .ok (.getfield 10, 3) := by decide +kernel
theorem dX10_needs_37 : decode cX10_needs 37 = .ok (.getfield 181, 3) := by decide +kernel
theorem dX10_needs_40 : decode cX10_needs 40 = .ok (.iload_n 1, 1) := by decide +kernel
theorem dX10_needs_41 : decode cX10_needs 41 = .ok (.aaload, 1) := by decide +kernel
theorem dX10_needs_42 : decode cX10_needs 42 = .ok (.iload_n 2, 1) := by decide +kernel
theorem dX10_needs_43 : decode cX10_needs 43 = .ok (.iaload, 1) := by decide +kernel
theorem dX10_needs_44 : decode cX10_needs 44 = .ok (.istore 4, 2) := by decide +kernel
theorem dX10_needs_46 : decode cX10_needs 46 = .ok (.aload_n 0, 1) := by decide +kernel
theorem dX10_needs_47 : decode cX10_needs 47 = .ok (.getfield 10, 3) := by decide +kernel
theorem dX10_needs_50 : decode cX10_needs 50 = .ok (.getfield 181, 3) := by decide +kernel
theorem dX10_needs_53 : decode cX10_needs 53 = .ok (.iload_n 1, 1) := by decide +kernel
theorem dX10_needs_54 : decode cX10_needs 54 = .ok (.aaload, 1) := by decide +kernel
theorem dX10_needs_55 : decode cX10_needs 55 = .ok (.iload_n 2, 1) := by decide +kernel
theorem dX10_needs_56 : decode cX10_needs 56 = .ok (.iload_n 3, 1) := by decide +kernel
theorem dX10_needs_57 : decode cX10_needs 57 = .ok (.iastore, 1) := by decide +kernel
theorem dX10_needs_58 : decode cX10_needs 58 = .ok (.iload 4, 2) := by decide +kernel
theorem dX10_needs_60 : decode cX10_needs 60 = .ok (.ireturn, 1) := by decide +kernel
theorem dX10_way_0 : decode cX10_way 0 = .ok (.iload_n 1, 1) := by decide +kernel
theorem dX10_way_1 : decode cX10_way 1 = .ok (.iconst 1, 1) := by decide +kernel
theorem dX10_way_2 : decode cX10_way 2 = .ok (.iconst 3, 1) := by decide +kernel
theorem dX10_way_3 : decode cX10_way 3 = .ok (.invokestatic 90, 3) := by decide +kernel
theorem dX10_way_6 : decode cX10_way 6 = .ok (.ifCond .eq 13, 3) := by decide +kernel
theorem dX10_way_9 : decode cX10_way 9 = .ok (.iload_n 2, 1) := by decide +kernel
theorem dX10_way_10 : decode cX10_way 10 = .ok (.iconst 0, 1) := by decide +kernel
theorem dX10_way_11 : decode cX10_way 11 = .ok (.bipush 9, 2) := by decide +kernel
theorem dX10_way_13 : decode cX10_way 13 = .ok (.invokestatic 90, 3) := by decide +kernel
theorem dX10_way_16 : decode cX10_way 16 = .ok (.ifCond .ne 6, 3) := by decide +kernel
theorem dX10_way_19 : decode cX10_way 19 = .ok (.bipush (-2), 2) := by decide +kernel
theorem dX10_way_21 : decode cX10_way 21 = .ok (.ireturn, 1) := by decide +kernel
theorem dX10_way_22 : decode cX10_way 22 = .ok (.aload_n 0, 1) := by decide +kernel
theorem dX10_way_23 : decode cX10_way 23 = .ok (.getfield 49, 3) := by decide +kernel
theorem dX10_way_26 : decode cX10_way 26 = .ok (.getfield 184, 3) := by decide +kernel
theorem dX10_way_29 : decode cX10_way 29 = .ok (.iload_n 1, 1) := by decide +kernel
theorem dX10_way_30 : decode cX10_way 30 = .ok (.iaload, 1) := by decide +kernel
theorem dX10_way_31 : decode cX10_way 31 = .ok (.istore_n 3, 1) := by decide +kernel
theorem dX10_way_32 : decode cX10_way 32 = .ok (.aload_n 0, 1) := by decide +kernel
theorem dX10_way_33 : decode cX10_way 33 = .ok (.getfield 49, 3) := by decide +kernel
theorem dX10_way_36 : decode cX10_way 36 = .ok (.getfield 184, 3) := by decide +kernel
theorem dX10_way_39 : decode cX10_way 39 = .ok (.iload_n 1, 1) := by decide +kernel
theorem dX10_way_40 : decode cX10_way 40 = .ok (.iload_n 2, 1) := by decide +kernel
theorem dX10_way_41 : decode cX10_way 41 = .ok (.iastore, 1) := by decide +kernel
theorem dX10_way_42 : decode cX10_way 42 = .ok (.iload_n 3, 1) := by decide +kernel
theorem dX10_way_43 : decode cX10_way 43 = .ok (.ireturn, 1) := by decide +kernel
theorem dX10_byRule_0 : decode cX10_byRule 0 = .ok (.iload_n 1, 1) := by decide +kernel
theorem dX10_byRule_1 : decode cX10_byRule 1 = .ok (.iconst (-1), 1) := by decide +kernel
theorem dX10_byRule_2 : decode cX10_byRule 2 = .ok (.aload_n 0, 1) := by decide +kernel
theorem dX10_byRule_3 : decode cX10_byRule 3 = .ok (.getfield 10, 3) := by decide +kernel
theorem dX10_byRule_6 : decode cX10_byRule 6 = .ok (.getfield 94, 3) := by decide +kernel
theorem dX10_byRule_9 : decode cX10_byRule 9 = .ok (.iconst 1, 1) := by decide +kernel
theorem dX10_byRule_10 : decode cX10_byRule 10 = .ok (.isub, 1) := by decide +kernel
theorem dX10_byRule_11 : decode cX10_byRule 11 = .ok (.invokestatic 90, 3) := by decide +kernel
theorem dX10_byRule_14 : decode cX10_byRule 14 = .ok (.ifCond .ne 6, 3) := by decide +kernel
theorem dX10_byRule_17 : decode cX10_byRule 17 = .ok (.bipush (-10), 2) := by decide +kernel
theorem dX10_byRule_19 : decode cX10_byRule 19 = .ok (.ireturn, 1) := by decide +kernel
theorem dX10_byRule_20 : decode cX10_byRule 20 = .ok (.aload_n 0, 1) := by decide +kernel
theorem dX10_byRule_21 : decode cX10_byRule 21 = .ok (.getfield 65, 3) := by decide +kernel
theorem dX10_byRule_24 : decode cX10_byRule 24 = .ok (.invokevirtual 187, 3) := by decide +kernel
theorem dX10_byRule_27 : decode cX10_byRule 27 = .ok (.iload_n 1, 1) := by decide +kernel
theorem dX10_byRule_28 : decode cX10_byRule 28 = .ok (.iconst (-1), 1) := by decide +kernel
theorem dX10_byRule_29 : decode cX10_byRule 29 = .ok (.if_icmp .ne 13, 3) := by decide +kernel
theorem dX10_byRule_32 : decode cX10_byRule 32 = .ok (.aload_n 0, 1) := by decide +kernel
theorem dX10_byRule_33 : decode cX10_byRule 33 = .ok (.getfield 65, 3) := by decide +kernel
theorem dX10_byRule_36 : decode cX10_byRule 36 = .ok (.invokevirtual 190, 3) := by decide +kernel
theorem dX10_byRule_39 : decode cX10_byRule 39 = .ok (.goto 12, 3) := by decide +kernel
theorem dX10_byRule_42 : decode cX10_byRule 42 = .ok (.aload_n 0, 1) := by decide +kernel
theorem dX10_byRule_43 : decode cX10_byRule 43 = .ok (.getfield 65, 3) := by decide +kernel
theorem dX10_byRule_46 : decode cX10_byRule 46 = .ok (.getfield 192, 3) := by decide +kernel
theorem dX10_byRule_49 : decode cX10_byRule 49 = .ok (.iload_n 1, 1) := by decide +kernel
theorem dX10_byRule_50 : decode cX10_byRule 50 = .ok (.iaload, 1) := by decide +kernel
theorem dX10_byRule_51 : decode cX10_byRule 51 = .ok (.ireturn, 1) := by decide +kernel
theorem dX10_bestRow_0 : decode cX10_bestRow 0 = .ok (.iload_n 1, 1) := by decide +kernel
theorem dX10_bestRow_1 : decode cX10_bestRow 1 = .ok (.iconst (-1), 1) := by decide +kernel
theorem dX10_bestRow_2 : decode cX10_bestRow 2 = .ok (.aload_n 0, 1) := by decide +kernel
theorem dX10_bestRow_3 : decode cX10_bestRow 3 = .ok (.getfield 10, 3) := by decide +kernel
theorem dX10_bestRow_6 : decode cX10_bestRow 6 = .ok (.getfield 94, 3) := by decide +kernel
theorem dX10_bestRow_9 : decode cX10_bestRow 9 = .ok (.iconst 1, 1) := by decide +kernel
theorem dX10_bestRow_10 : decode cX10_bestRow 10 = .ok (.isub, 1) := by decide +kernel
theorem dX10_bestRow_11 : decode cX10_bestRow 11 = .ok (.invokestatic 90, 3) := by decide +kernel
theorem dX10_bestRow_14 : decode cX10_bestRow 14 = .ok (.ifCond .ne 6, 3) := by decide +kernel
theorem dX10_bestRow_17 : decode cX10_bestRow 17 = .ok (.bipush (-10), 2) := by decide +kernel
theorem dX10_bestRow_19 : decode cX10_bestRow 19 = .ok (.ireturn, 1) := by decide +kernel
theorem dX10_bestRow_20 : decode cX10_bestRow 20 = .ok (.aload_n 0, 1) := by decide +kernel
theorem dX10_bestRow_21 : decode cX10_bestRow 21 = .ok (.getfield 58, 3) := by decide +kernel
theorem dX10_bestRow_24 : decode cX10_bestRow 24 = .ok (.invokevirtual 193, 3) := by decide +kernel
theorem dX10_bestRow_27 : decode cX10_bestRow 27 = .ok (.iload_n 1, 1) := by decide +kernel
theorem dX10_bestRow_28 : decode cX10_bestRow 28 = .ok (.iconst (-1), 1) := by decide +kernel
theorem dX10_bestRow_29 : decode cX10_bestRow 29 = .ok (.if_icmp .ne 13, 3) := by decide +kernel
theorem dX10_bestRow_32 : decode cX10_bestRow 32 = .ok (.aload_n 0, 1) := by decide +kernel
theorem dX10_bestRow_33 : decode cX10_bestRow 33 = .ok (.getfield 58, 3) := by decide +kernel
theorem dX10_bestRow_36 : decode cX10_bestRow 36 = .ok (.getfield 195, 3) := by decide +kernel
theorem dX10_bestRow_39 : decode cX10_bestRow 39 = .ok (.goto 12, 3) := by decide +kernel
theorem dX10_bestRow_42 : decode cX10_bestRow 42 = .ok (.aload_n 0, 1) := by decide +kernel
theorem dX10_bestRow_43 : decode cX10_bestRow 43 = .ok (.getfield 58, 3) := by decide +kernel
theorem dX10_bestRow_46 : decode cX10_bestRow 46 = .ok (.getfield 197, 3) := by decide +kernel
theorem dX10_bestRow_49 : decode cX10_bestRow 49 = .ok (.iload_n 1, 1) := by decide +kernel
theorem dX10_bestRow_50 : decode cX10_bestRow 50 = .ok (.iaload, 1) := by decide +kernel
theorem dX10_bestRow_51 : decode cX10_bestRow 51 = .ok (.ireturn, 1) := by decide +kernel
theorem dX10_bound_0 : decode cX10_bound 0 = .ok (.aload_n 0, 1) := by decide +kernel
theorem dX10_bound_1 : decode cX10_bound 1 = .ok (.getfield 49, 3) := by decide +kernel
theorem dX10_bound_4 : decode cX10_bound 4 = .ok (.invokevirtual 198, 3) := by decide +kernel
theorem dX10_bound_7 : decode cX10_bound 7 = .ok (.ireturn, 1) := by decide +kernel
theorem dX10_any_0 : decode cX10_any 0 = .ok (.aload_n 0, 1) := by decide +kernel
theorem dX10_any_1 : decode cX10_any 1 = .ok (.getfield 65, 3) := by decide +kernel
theorem dX10_any_4 : decode cX10_any 4 = .ok (.invokevirtual 201, 3) := by decide +kernel
theorem dX10_any_7 : decode cX10_any 7 = .ok (.ireturn, 1) := by decide +kernel
theorem dX10_step_0 : decode cX10_step 0 = .ok (.iload_n 1, 1) := by decide +kernel
theorem dX10_step_1 : decode cX10_step 1 = .ok (.iconst 0, 1) := by decide +kernel
theorem dX10_step_2 : decode cX10_step 2 = .ok (.iconst 1, 1) := by decide +kernel
theorem dX10_step_3 : decode cX10_step 3 = .ok (.invokestatic 90, 3) := by decide +kernel
theorem dX10_step_6 : decode cX10_step 6 = .ok (.ifCond .eq 22, 3) := by decide +kernel
theorem dX10_step_9 : decode cX10_step 9 = .ok (.iload_n 2, 1) := by decide +kernel
theorem dX10_step_10 : decode cX10_step 10 = .ok (.iconst 0, 1) := by decide +kernel
theorem dX10_step_11 : decode cX10_step 11 = .ok (.iconst 5, 1) := by decide +kernel
theorem dX10_step_12 : decode cX10_step 12 = .ok (.invokestatic 90, 3) := by decide +kernel
theorem dX10_step_15 : decode cX10_step 15 = .ok (.ifCond .eq 13, 3) := by decide +kernel
theorem dX10_step_18 : decode cX10_step 18 = .ok (.iload_n 3, 1) := by decide +kernel
theorem dX10_step_19 : decode cX10_step 19 = .ok (.iconst 1, 1) := by decide +kernel
theorem dX10_step_20 : decode cX10_step 20 = .ok (.bipush 20, 2) := by decide +kernel
theorem dX10_step_22 : decode cX10_step 22 = .ok (.invokestatic 90, 3) := by decide +kernel
theorem dX10_step_25 : decode cX10_step 25 = .ok (.ifCond .ne 6, 3) := by decide +kernel
theorem dX10_step_28 : decode cX10_step 28 = .ok (.bipush (-2), 2) := by decide +kernel
theorem dX10_step_30 : decode cX10_step 30 = .ok (.ireturn, 1) := by decide +kernel
theorem dX10_step_31 : decode cX10_step 31 = .ok (.aload_n 0, 1) := by decide +kernel
theorem dX10_step_32 : decode cX10_step 32 = .ok (.getfield 72, 3) := by decide +kernel
theorem dX10_step_35 : decode cX10_step 35 = .ok (.getfield 204, 3) := by decide +kernel
theorem dX10_step_38 : decode cX10_step 38 = .ok (.iload_n 1, 1) := by decide +kernel
theorem dX10_step_39 : decode cX10_step 39 = .ok (.iaload, 1) := by decide +kernel
theorem dX10_step_40 : decode cX10_step 40 = .ok (.bipush 6, 2) := by decide +kernel
theorem dX10_step_42 : decode cX10_step 42 = .ok (.if_icmp .lt 6, 3) := by decide +kernel
theorem dX10_step_45 : decode cX10_step 45 = .ok (.bipush (-4), 2) := by decide +kernel
theorem dX10_step_47 : decode cX10_step 47 = .ok (.ireturn, 1) := by decide +kernel
theorem dX10_step_48 : decode cX10_step 48 = .ok (.aload_n 0, 1) := by decide +kernel
theorem dX10_step_49 : decode cX10_step 49 = .ok (.getfield 72, 3) := by decide +kernel
theorem dX10_step_52 : decode cX10_step 52 = .ok (.iload_n 1, 1) := by decide +kernel
theorem dX10_step_53 : decode cX10_step 53 = .ok (.iload_n 2, 1) := by decide +kernel
theorem dX10_step_54 : decode cX10_step 54 = .ok (.iload_n 3, 1) := by decide +kernel
theorem dX10_step_55 : decode cX10_step 55 = .ok (.invokevirtual 207, 3) := by decide +kernel
theorem dX10_step_58 : decode cX10_step 58 = .ok (.ireturn, 1) := by decide +kernel
theorem dX10_clear_0 : decode cX10_clear 0 = .ok (.aload_n 0, 1) := by decide +kernel
theorem dX10_clear_1 : decode cX10_clear 1 = .ok (.getfield 72, 3) := by decide +kernel
theorem dX10_clear_4 : decode cX10_clear 4 = .ok (.invokevirtual 210, 3) := by decide +kernel
theorem dX10_clear_7 : decode cX10_clear 7 = .ok (.ireturn, 1) := by decide +kernel
theorem dX10_walk_0 : decode cX10_walk 0 = .ok (.aload_n 0, 1) := by decide +kernel
theorem dX10_walk_1 : decode cX10_walk 1 = .ok (.getfield 72, 3) := by decide +kernel
theorem dX10_walk_4 : decode cX10_walk 4 = .ok (.invokevirtual 211, 3) := by decide +kernel
theorem dX10_walk_7 : decode cX10_walk 7 = .ok (.ireturn, 1) := by decide +kernel
theorem dX10_leaf_0 : decode cX10_leaf 0 = .ok (.iload_n 1, 1) := by decide +kernel
theorem dX10_leaf_1 : decode cX10_leaf 1 = .ok (.iconst (-1), 1) := by decide +kernel
theorem dX10_leaf_2 : decode cX10_leaf 2 = .ok (.aload_n 0, 1) := by decide +kernel
theorem dX10_leaf_3 : decode cX10_leaf 3 = .ok (.getfield 79, 3) := by decide +kernel
theorem dX10_leaf_6 : decode cX10_leaf 6 = .ok (.getfield 214, 3) := by decide +kernel
theorem dX10_leaf_9 : decode cX10_leaf 9 = .ok (.iconst 1, 1) := by decide +kernel
theorem dX10_leaf_10 : decode cX10_leaf 10 = .ok (.isub, 1) := by decide +kernel
theorem dX10_leaf_11 : decode cX10_leaf 11 = .ok (.invokestatic 90, 3) := by decide +kernel
theorem dX10_leaf_14 : decode cX10_leaf 14 = .ok (.ifCond .ne 6, 3) := by decide +kernel
theorem dX10_leaf_17 : decode cX10_leaf 17 = .ok (.bipush (-2), 2) := by decide +kernel
theorem dX10_leaf_19 : decode cX10_leaf 19 = .ok (.ireturn, 1) := by decide +kernel
theorem dX10_leaf_20 : decode cX10_leaf 20 = .ok (.aload_n 0, 1) := by decide +kernel
theorem dX10_leaf_21 : decode cX10_leaf 21 = .ok (.getfield 79, 3) := by decide +kernel
theorem dX10_leaf_24 : decode cX10_leaf 24 = .ok (.getfield 214, 3) := by decide +kernel
theorem dX10_leaf_27 : decode cX10_leaf 27 = .ok (.bipush 12, 2) := by decide +kernel
theorem dX10_leaf_29 : decode cX10_leaf 29 = .ok (.if_icmp .lt 6, 3) := by decide +kernel
theorem dX10_leaf_32 : decode cX10_leaf 32 = .ok (.bipush (-4), 2) := by decide +kernel
theorem dX10_leaf_34 : decode cX10_leaf 34 = .ok (.ireturn, 1) := by decide +kernel
theorem dX10_leaf_35 : decode cX10_leaf 35 = .ok (.aload_n 0, 1) := by decide +kernel
theorem dX10_leaf_36 : decode cX10_leaf 36 = .ok (.getfield 79, 3) := by decide +kernel
theorem dX10_leaf_39 : decode cX10_leaf 39 = .ok (.iload_n 1, 1) := by decide +kernel
theorem dX10_leaf_40 : decode cX10_leaf 40 = .ok (.invokevirtual 215, 3) := by decide +kernel
theorem dX10_leaf_43 : decode cX10_leaf 43 = .ok (.ireturn, 1) := by decide +kernel
theorem dX10_fell_0 : decode cX10_fell 0 = .ok (.aload_n 0, 1) := by decide +kernel
theorem dX10_fell_1 : decode cX10_fell 1 = .ok (.getfield 79, 3) := by decide +kernel
theorem dX10_fell_4 : decode cX10_fell 4 = .ok (.invokevirtual 216, 3) := by decide +kernel
theorem dX10_fell_7 : decode cX10_fell 7 = .ok (.ireturn, 1) := by decide +kernel
theorem dX10_likes_0 : decode cX10_likes 0 = .ok (.iload_n 1, 1) := by decide +kernel
theorem dX10_likes_1 : decode cX10_likes 1 = .ok (.iconst 1, 1) := by decide +kernel
theorem dX10_likes_2 : decode cX10_likes 2 = .ok (.iconst 4, 1) := by decide +kernel
theorem dX10_likes_3 : decode cX10_likes 3 = .ok (.invokestatic 90, 3) := by decide +kernel
theorem dX10_likes_6 : decode cX10_likes 6 = .ok (.ifCond .ne 6, 3) := by decide +kernel
theorem dX10_likes_9 : decode cX10_likes 9 = .ok (.bipush (-2), 2) := by decide +kernel
theorem dX10_likes_11 : decode cX10_likes 11 = .ok (.ireturn, 1) := by decide +kernel
theorem dX10_likes_12 : decode cX10_likes 12 = .ok (.aload_n 0, 1) := by decide +kernel
theorem dX10_likes_13 : decode cX10_likes 13 = .ok (.getfield 79, 3) := by decide +kernel
theorem dX10_likes_16 : decode cX10_likes 16 = .ok (.getfield 217, 3) := by decide +kernel
theorem dX10_likes_19 : decode cX10_likes 19 = .ok (.istore_n 2, 1) := by decide +kernel
theorem dX10_likes_20 : decode cX10_likes 20 = .ok (.aload_n 0, 1) := by decide +kernel
theorem dX10_likes_21 : decode cX10_likes 21 = .ok (.getfield 79, 3) := by decide +kernel
theorem dX10_likes_24 : decode cX10_likes 24 = .ok (.iload_n 1, 1) := by decide +kernel
theorem dX10_likes_25 : decode cX10_likes 25 = .ok (.putfield 217, 3) := by decide +kernel
theorem dX10_likes_28 : decode cX10_likes 28 = .ok (.iload_n 2, 1) := by decide +kernel
theorem dX10_likes_29 : decode cX10_likes 29 = .ok (.ireturn, 1) := by decide +kernel
theorem dX10_levels_0 : decode cX10_levels 0 = .ok (.iload_n 1, 1) := by decide +kernel
theorem dX10_levels_1 : decode cX10_levels 1 = .ok (.iconst (-1), 1) := by decide +kernel
theorem dX10_levels_2 : decode cX10_levels 2 = .ok (.aload_n 0, 1) := by decide +kernel
theorem dX10_levels_3 : decode cX10_levels 3 = .ok (.getfield 79, 3) := by decide +kernel
theorem dX10_levels_6 : decode cX10_levels 6 = .ok (.getfield 214, 3) := by decide +kernel
theorem dX10_levels_9 : decode cX10_levels 9 = .ok (.iconst 1, 1) := by decide +kernel
theorem dX10_levels_10 : decode cX10_levels 10 = .ok (.isub, 1) := by decide +kernel
theorem dX10_levels_11 : decode cX10_levels 11 = .ok (.invokestatic 90, 3) := by decide +kernel
theorem dX10_levels_14 : decode cX10_levels 14 = .ok (.ifCond .ne 6, 3) := by decide +kernel
theorem dX10_levels_17 : decode cX10_levels 17 = .ok (.bipush (-10), 2) := by decide +kernel
theorem dX10_levels_19 : decode cX10_levels 19 = .ok (.ireturn, 1) := by decide +kernel
theorem dX10_levels_20 : decode cX10_levels 20 = .ok (.aload_n 0, 1) := by decide +kernel
theorem dX10_levels_21 : decode cX10_levels 21 = .ok (.getfield 79, 3) := by decide +kernel
theorem dX10_levels_24 : decode cX10_levels 24 = .ok (.invokevirtual 220, 3) := by decide +kernel
theorem dX10_levels_27 : decode cX10_levels 27 = .ok (.istore_n 2, 1) := by decide +kernel
theorem dX10_levels_28 : decode cX10_levels 28 = .ok (.iload_n 1, 1) := by decide +kernel
theorem dX10_levels_29 : decode cX10_levels 29 = .ok (.iconst (-1), 1) := by decide +kernel
theorem dX10_levels_30 : decode cX10_levels 30 = .ok (.if_icmp .ne 7, 3) := by decide +kernel
theorem dX10_levels_33 : decode cX10_levels 33 = .ok (.iload_n 2, 1) := by decide +kernel
theorem dX10_levels_34 : decode cX10_levels 34 = .ok (.goto 12, 3) := by decide +kernel
theorem dX10_levels_37 : decode cX10_levels 37 = .ok (.aload_n 0, 1) := by decide +kernel
theorem dX10_levels_38 : decode cX10_levels 38 = .ok (.getfield 79, 3) := by decide +kernel
theorem dX10_levels_41 : decode cX10_levels 41 = .ok (.getfield 223, 3) := by decide +kernel
theorem dX10_levels_44 : decode cX10_levels 44 = .ok (.iload_n 1, 1) := by decide +kernel
theorem dX10_levels_45 : decode cX10_levels 45 = .ok (.iaload, 1) := by decide +kernel
theorem dX10_levels_46 : decode cX10_levels 46 = .ok (.ireturn, 1) := by decide +kernel
theorem dX10_least_0 : decode cX10_least 0 = .ok (.iload_n 1, 1) := by decide +kernel
theorem dX10_least_1 : decode cX10_least 1 = .ok (.iconst 0, 1) := by decide +kernel
theorem dX10_least_2 : decode cX10_least 2 = .ok (.iconst 1, 1) := by decide +kernel
theorem dX10_least_3 : decode cX10_least 3 = .ok (.invokestatic 90, 3) := by decide +kernel
theorem dX10_least_6 : decode cX10_least 6 = .ok (.ifCond .ne 6, 3) := by decide +kernel
theorem dX10_least_9 : decode cX10_least 9 = .ok (.bipush (-2), 2) := by decide +kernel
theorem dX10_least_11 : decode cX10_least 11 = .ok (.ireturn, 1) := by decide +kernel
theorem dX10_least_12 : decode cX10_least 12 = .ok (.iload_n 1, 1) := by decide +kernel
theorem dX10_least_13 : decode cX10_least 13 = .ok (.ifCond .ne 13, 3) := by decide +kernel
theorem dX10_least_16 : decode cX10_least 16 = .ok (.aload_n 0, 1) := by decide +kernel
theorem dX10_least_17 : decode cX10_least 17 = .ok (.getfield 79, 3) := by decide +kernel
theorem dX10_least_20 : decode cX10_least 20 = .ok (.invokevirtual 226, 3) := by decide +kernel
theorem dX10_least_23 : decode cX10_least 23 = .ok (.goto 10, 3) := by decide +kernel
theorem dX10_least_26 : decode cX10_least 26 = .ok (.aload_n 0, 1) := by decide +kernel
theorem dX10_least_27 : decode cX10_least 27 = .ok (.getfield 79, 3) := by decide +kernel
theorem dX10_least_30 : decode cX10_least 30 = .ok (.invokevirtual 229, 3) := by decide +kernel
theorem dX10_least_33 : decode cX10_least 33 = .ok (.ireturn, 1) := by decide +kernel
theorem dX10_count_0 : decode cX10_count 0 = .ok (.iload_n 1, 1) := by decide +kernel
theorem dX10_count_1 : decode cX10_count 1 = .ok (.tableswitch 79 0 4 #[35, 43, 51, 61, 71], 35) := by decide +kernel
theorem dX10_count_36 : decode cX10_count 36 = .ok (.aload_n 0, 1) := by decide +kernel
theorem dX10_count_37 : decode cX10_count 37 = .ok (.getfield 10, 3) := by decide +kernel
theorem dX10_count_40 : decode cX10_count 40 = .ok (.getfield 94, 3) := by decide +kernel
theorem dX10_count_43 : decode cX10_count 43 = .ok (.ireturn, 1) := by decide +kernel
theorem dX10_count_44 : decode cX10_count 44 = .ok (.aload_n 0, 1) := by decide +kernel
theorem dX10_count_45 : decode cX10_count 45 = .ok (.getfield 19, 3) := by decide +kernel
theorem dX10_count_48 : decode cX10_count 48 = .ok (.getfield 166, 3) := by decide +kernel
theorem dX10_count_51 : decode cX10_count 51 = .ok (.ireturn, 1) := by decide +kernel
theorem dX10_count_52 : decode cX10_count 52 = .ok (.aload_n 0, 1) := by decide +kernel
theorem dX10_count_53 : decode cX10_count 53 = .ok (.getfield 72, 3) := by decide +kernel
theorem dX10_count_56 : decode cX10_count 56 = .ok (.getfield 204, 3) := by decide +kernel
theorem dX10_count_59 : decode cX10_count 59 = .ok (.iconst 0, 1) := by decide +kernel
theorem dX10_count_60 : decode cX10_count 60 = .ok (.iaload, 1) := by decide +kernel
theorem dX10_count_61 : decode cX10_count 61 = .ok (.ireturn, 1) := by decide +kernel
theorem dX10_count_62 : decode cX10_count 62 = .ok (.aload_n 0, 1) := by decide +kernel
theorem dX10_count_63 : decode cX10_count 63 = .ok (.getfield 72, 3) := by decide +kernel
theorem dX10_count_66 : decode cX10_count 66 = .ok (.getfield 204, 3) := by decide +kernel
theorem dX10_count_69 : decode cX10_count 69 = .ok (.iconst 1, 1) := by decide +kernel
theorem dX10_count_70 : decode cX10_count 70 = .ok (.iaload, 1) := by decide +kernel
theorem dX10_count_71 : decode cX10_count 71 = .ok (.ireturn, 1) := by decide +kernel
theorem dX10_count_72 : decode cX10_count 72 = .ok (.aload_n 0, 1) := by decide +kernel
theorem dX10_count_73 : decode cX10_count 73 = .ok (.getfield 79, 3) := by decide +kernel
theorem dX10_count_76 : decode cX10_count 76 = .ok (.getfield 214, 3) := by decide +kernel
theorem dX10_count_79 : decode cX10_count 79 = .ok (.ireturn, 1) := by decide +kernel
theorem dX10_count_80 : decode cX10_count 80 = .ok (.bipush (-2), 2) := by decide +kernel
theorem dX10_count_82 : decode cX10_count 82 = .ok (.ireturn, 1) := by decide +kernel
theorem dX10_digest_0 : decode cX10_digest 0 = .ok (.ldc2_w 230, 3) := by decide +kernel
theorem dX10_digest_3 : decode cX10_digest 3 = .ok (.lstore_n 1, 1) := by decide +kernel
theorem dX10_digest_4 : decode cX10_digest 4 = .ok (.iconst 0, 1) := by decide +kernel
theorem dX10_digest_5 : decode cX10_digest 5 = .ok (.istore_n 3, 1) := by decide +kernel
theorem dX10_digest_6 : decode cX10_digest 6 = .ok (.iload_n 3, 1) := by decide +kernel
theorem dX10_digest_7 : decode cX10_digest 7 = .ok (.iconst 5, 1) := by decide +kernel
theorem dX10_digest_8 : decode cX10_digest 8 = .ok (.if_icmp .ge 19, 3) := by decide +kernel
theorem dX10_digest_11 : decode cX10_digest 11 = .ok (.lload_n 1, 1) := by decide +kernel
theorem dX10_digest_12 : decode cX10_digest 12 = .ok (.aload_n 0, 1) := by decide +kernel
theorem dX10_digest_13 : decode cX10_digest 13 = .ok (.iload_n 3, 1) := by decide +kernel
theorem dX10_digest_14 : decode cX10_digest 14 = .ok (.invokevirtual 232, 3) := by decide +kernel
theorem dX10_digest_17 : decode cX10_digest 17 = .ok (.invokestatic 235, 3) := by decide +kernel
theorem dX10_digest_20 : decode cX10_digest 20 = .ok (.lstore_n 1, 1) := by decide +kernel
theorem dX10_digest_21 : decode cX10_digest 21 = .ok (.iinc 3 1, 3) := by decide +kernel
theorem dX10_digest_24 : decode cX10_digest 24 = .ok (.goto (-18), 3) := by decide +kernel
theorem dX10_digest_27 : decode cX10_digest 27 = .ok (.aload_n 0, 1) := by decide +kernel
theorem dX10_digest_28 : decode cX10_digest 28 = .ok (.getfield 10, 3) := by decide +kernel
theorem dX10_digest_31 : decode cX10_digest 31 = .ok (.lload_n 1, 1) := by decide +kernel
theorem dX10_digest_32 : decode cX10_digest 32 = .ok (.invokevirtual 239, 3) := by decide +kernel
theorem dX10_digest_35 : decode cX10_digest 35 = .ok (.lstore_n 1, 1) := by decide +kernel
theorem dX10_digest_36 : decode cX10_digest 36 = .ok (.aload_n 0, 1) := by decide +kernel
theorem dX10_digest_37 : decode cX10_digest 37 = .ok (.getfield 19, 3) := by decide +kernel
theorem dX10_digest_40 : decode cX10_digest 40 = .ok (.lload_n 1, 1) := by decide +kernel
theorem dX10_digest_41 : decode cX10_digest 41 = .ok (.invokevirtual 243, 3) := by decide +kernel
theorem dX10_digest_44 : decode cX10_digest 44 = .ok (.lstore_n 1, 1) := by decide +kernel
theorem dX10_digest_45 : decode cX10_digest 45 = .ok (.aload_n 0, 1) := by decide +kernel
theorem dX10_digest_46 : decode cX10_digest 46 = .ok (.getfield 49, 3) := by decide +kernel
theorem dX10_digest_49 : decode cX10_digest 49 = .ok (.lload_n 1, 1) := by decide +kernel
theorem dX10_digest_50 : decode cX10_digest 50 = .ok (.invokevirtual 244, 3) := by decide +kernel
theorem dX10_digest_53 : decode cX10_digest 53 = .ok (.lstore_n 1, 1) := by decide +kernel
theorem dX10_digest_54 : decode cX10_digest 54 = .ok (.aload_n 0, 1) := by decide +kernel
theorem dX10_digest_55 : decode cX10_digest 55 = .ok (.getfield 72, 3) := by decide +kernel
theorem dX10_digest_58 : decode cX10_digest 58 = .ok (.lload_n 1, 1) := by decide +kernel
theorem dX10_digest_59 : decode cX10_digest 59 = .ok (.invokevirtual 245, 3) := by decide +kernel
theorem dX10_digest_62 : decode cX10_digest 62 = .ok (.lstore_n 1, 1) := by decide +kernel
theorem dX10_digest_63 : decode cX10_digest 63 = .ok (.aload_n 0, 1) := by decide +kernel
theorem dX10_digest_64 : decode cX10_digest 64 = .ok (.getfield 79, 3) := by decide +kernel
theorem dX10_digest_67 : decode cX10_digest 67 = .ok (.lload_n 1, 1) := by decide +kernel
theorem dX10_digest_68 : decode cX10_digest 68 = .ok (.invokevirtual 246, 3) := by decide +kernel
theorem dX10_digest_71 : decode cX10_digest 71 = .ok (.lreturn, 1) := by decide +kernel
theorem dX10_isFrom_0 : decode cX10_isFrom 0 = .ok (.iload_n 0, 1) := by decide +kernel
theorem dX10_isFrom_1 : decode cX10_isFrom 1 = .ok (.iload_n 1, 1) := by decide +kernel
theorem dX10_isFrom_2 : decode cX10_isFrom 2 = .ok (.if_icmp .lt 12, 3) := by decide +kernel
theorem dX10_isFrom_5 : decode cX10_isFrom 5 = .ok (.iload_n 0, 1) := by decide +kernel
theorem dX10_isFrom_6 : decode cX10_isFrom 6 = .ok (.iload_n 2, 1) := by decide +kernel
theorem dX10_isFrom_7 : decode cX10_isFrom 7 = .ok (.if_icmp .gt 7, 3) := by decide +kernel
theorem dX10_isFrom_10 : decode cX10_isFrom 10 = .ok (.iconst 1, 1) := by decide +kernel
theorem dX10_isFrom_11 : decode cX10_isFrom 11 = .ok (.goto 4, 3) := by decide +kernel
theorem dX10_isFrom_14 : decode cX10_isFrom 14 = .ok (.iconst 0, 1) := by decide +kernel
theorem dX10_isFrom_15 : decode cX10_isFrom 15 = .ok (.ireturn, 1) := by decide +kernel
theorem dX10_isIn_0 : decode cX10_isIn 0 = .ok (.iload_n 0, 1) := by decide +kernel
theorem dX10_isIn_1 : decode cX10_isIn 1 = .ok (.iconst 1, 1) := by decide +kernel
theorem dX10_isIn_2 : decode cX10_isIn 2 = .ok (.iload_n 1, 1) := by decide +kernel
theorem dX10_isIn_3 : decode cX10_isIn 3 = .ok (.ishl, 1) := by decide +kernel
theorem dX10_isIn_4 : decode cX10_isIn 4 = .ok (.iand, 1) := by decide +kernel
theorem dX10_isIn_5 : decode cX10_isIn 5 = .ok (.ifCond .eq 7, 3) := by decide +kernel
theorem dX10_isIn_8 : decode cX10_isIn 8 = .ok (.iconst 1, 1) := by decide +kernel
theorem dX10_isIn_9 : decode cX10_isIn 9 = .ok (.goto 4, 3) := by decide +kernel
theorem dX10_isIn_12 : decode cX10_isIn 12 = .ok (.iconst 0, 1) := by decide +kernel
theorem dX10_isIn_13 : decode cX10_isIn 13 = .ok (.ireturn, 1) := by decide +kernel
theorem dX10_fold_0 : decode cX10_fold 0 = .ok (.ldc2_w 247, 3) := by decide +kernel
theorem dX10_fold_3 : decode cX10_fold 3 = .ok (.lload_n 0, 1) := by decide +kernel
theorem dX10_fold_4 : decode cX10_fold 4 = .ok (.lmul, 1) := by decide +kernel
theorem dX10_fold_5 : decode cX10_fold 5 = .ok (.iload_n 2, 1) := by decide +kernel
theorem dX10_fold_6 : decode cX10_fold 6 = .ok (.i2l, 1) := by decide +kernel
theorem dX10_fold_7 : decode cX10_fold 7 = .ok (.ladd, 1) := by decide +kernel
theorem dX10_fold_8 : decode cX10_fold 8 = .ok (.lreturn, 1) := by decide +kernel
theorem dX11_init_0 : decode cX11_init 0 = .ok (.aload_n 0, 1) := by decide +kernel
theorem dX11_init_1 : decode cX11_init 1 = .ok (.invokespecial 1, 3) := by decide +kernel
theorem dX11_init_4 : decode cX11_init 4 = .ok (.aload_n 0, 1) := by decide +kernel
theorem dX11_init_5 : decode cX11_init 5 = .ok (.bipush 8, 2) := by decide +kernel
theorem dX11_init_7 : decode cX11_init 7 = .ok (.newarray .int, 2) := by decide +kernel
theorem dX11_init_9 : decode cX11_init 9 = .ok (.putfield 7, 3) := by decide +kernel
theorem dX11_init_12 : decode cX11_init 12 = .ok (.aload_n 0, 1) := by decide +kernel
theorem dX11_init_13 : decode cX11_init 13 = .ok (.bipush 8, 2) := by decide +kernel
theorem dX11_init_15 : decode cX11_init 15 = .ok (.newarray .int, 2) := by decide +kernel
theorem dX11_init_17 : decode cX11_init 17 = .ok (.putfield 13, 3) := by decide +kernel
theorem dX11_init_20 : decode cX11_init 20 = .ok (.aload_n 0, 1) := by decide +kernel
theorem dX11_init_21 : decode cX11_init 21 = .ok (.bipush 8, 2) := by decide +kernel
theorem dX11_init_23 : decode cX11_init 23 = .ok (.newarray .int, 2) := by decide +kernel
theorem dX11_init_25 : decode cX11_init 25 = .ok (.putfield 16, 3) := by decide +kernel
theorem dX11_init_28 : decode cX11_init 28 = .ok (.aload_n 0, 1) := by decide +kernel
theorem dX11_init_29 : decode cX11_init 29 = .ok (.bipush 8, 2) := by decide +kernel
theorem dX11_init_31 : decode cX11_init 31 = .ok (.newarray .int, 2) := by decide +kernel
theorem dX11_init_33 : decode cX11_init 33 = .ok (.putfield 19, 3) := by decide +kernel
theorem dX11_init_36 : decode cX11_init 36 = .ok (.aload_n 0, 1) := by decide +kernel
theorem dX11_init_37 : decode cX11_init 37 = .ok (.bipush 8, 2) := by decide +kernel
theorem dX11_init_39 : decode cX11_init 39 = .ok (.newarray .int, 2) := by decide +kernel
theorem dX11_init_41 : decode cX11_init 41 = .ok (.putfield 22, 3) := by decide +kernel
theorem dX11_init_44 : decode cX11_init 44 = .ok (.aload_n 0, 1) := by decide +kernel
theorem dX11_init_45 : decode cX11_init 45 = .ok (.bipush 8, 2) := by decide +kernel
theorem dX11_init_47 : decode cX11_init 47 = .ok (.newarray .int, 2) := by decide +kernel
theorem dX11_init_49 : decode cX11_init 49 = .ok (.putfield 25, 3) := by decide +kernel
theorem dX11_init_52 : decode cX11_init 52 = .ok (.aload_n 0, 1) := by decide +kernel
theorem dX11_init_53 : decode cX11_init 53 = .ok (.bipush 9, 2) := by decide +kernel
theorem dX11_init_55 : decode cX11_init 55 = .ok (.newarray .int, 2) := by decide +kernel
theorem dX11_init_57 : decode cX11_init 57 = .ok (.putfield 28, 3) := by decide +kernel
theorem dX11_init_60 : decode cX11_init 60 = .ok (.aload_n 0, 1) := by decide +kernel
theorem dX11_init_61 : decode cX11_init 61 = .ok (.bipush 32, 2) := by decide +kernel
theorem dX11_init_63 : decode cX11_init 63 = .ok (.newarray .int, 2) := by decide +kernel
theorem dX11_init_65 : decode cX11_init 65 = .ok (.putfield 31, 3) := by decide +kernel
theorem dX11_init_68 : decode cX11_init 68 = .ok (.aload_n 0, 1) := by decide +kernel
theorem dX11_init_69 : decode cX11_init 69 = .ok (.iconst 2, 1) := by decide +kernel
theorem dX11_init_70 : decode cX11_init 70 = .ok (.putfield 34, 3) := by decide +kernel
theorem dX11_init_73 : decode cX11_init 73 = .ok (.aload_n 0, 1) := by decide +kernel
theorem dX11_init_74 : decode cX11_init 74 = .ok (.iconst 4, 1) := by decide +kernel
theorem dX11_init_75 : decode cX11_init 75 = .ok (.newarray .int, 2) := by decide +kernel
theorem dX11_init_77 : decode cX11_init 77 = .ok (.putfield 38, 3) := by decide +kernel
theorem dX11_init_80 : decode cX11_init 80 = .ok (.aload_n 0, 1) := by decide +kernel
theorem dX11_init_81 : decode cX11_init 81 = .ok (.bipush 8, 2) := by decide +kernel
theorem dX11_init_83 : decode cX11_init 83 = .ok (.newarray .int, 2) := by decide +kernel
theorem dX11_init_85 : decode cX11_init 85 = .ok (.putfield 41, 3) := by decide +kernel
theorem dX11_init_88 : decode cX11_init 88 = .ok (.aload_n 0, 1) := by decide +kernel
theorem dX11_init_89 : decode cX11_init 89 = .ok (.bipush 24, 2) := by decide +kernel
theorem dX11_init_91 : decode cX11_init 91 = .ok (.newarray .int, 2) := by decide +kernel
theorem dX11_init_93 : decode cX11_init 93 = .ok (.putfield 44, 3) := by decide +kernel
theorem dX11_init_96 : decode cX11_init 96 = .ok (.aload_n 0, 1) := by decide +kernel
theorem dX11_init_97 : decode cX11_init 97 = .ok (.iconst 2, 1) := by decide +kernel
theorem dX11_init_98 : decode cX11_init 98 = .ok (.newarray .int, 2) := by decide +kernel
theorem dX11_init_100 : decode cX11_init 100 = .ok (.putfield 47, 3) := by decide +kernel
theorem dX11_init_103 : decode cX11_init 103 = .ok (.aload_n 0, 1) := by decide +kernel
theorem dX11_init_104 : decode cX11_init 104 = .ok (.bipush 12, 2) := by decide +kernel
theorem dX11_init_106 : decode cX11_init 106 = .ok (.newarray .int, 2) := by decide +kernel
theorem dX11_init_108 : decode cX11_init 108 = .ok (.putfield 50, 3) := by decide +kernel
theorem dX11_init_111 : decode cX11_init 111 = .ok (.aload_n 0, 1) := by decide +kernel
theorem dX11_init_112 : decode cX11_init 112 = .ok (.iconst 2, 1) := by decide +kernel
theorem dX11_init_113 : decode cX11_init 113 = .ok (.putfield 53, 3) := by decide +kernel
theorem dX11_init_116 : decode cX11_init 116 = .ok (.aload_n 0, 1) := by decide +kernel
theorem dX11_init_117 : decode cX11_init 117 = .ok (.bipush 8, 2) := by decide +kernel
theorem dX11_init_119 : decode cX11_init 119 = .ok (.newarray .int, 2) := by decide +kernel
theorem dX11_init_121 : decode cX11_init 121 = .ok (.putfield 56, 3) := by decide +kernel
theorem dX11_init_124 : decode cX11_init 124 = .ok (.aload_n 0, 1) := by decide +kernel
theorem dX11_init_125 : decode cX11_init 125 = .ok (.bipush 8, 2) := by decide +kernel
theorem dX11_init_127 : decode cX11_init 127 = .ok (.newarray .int, 2) := by decide +kernel
theorem dX11_init_129 : decode cX11_init 129 = .ok (.putfield 59, 3) := by decide +kernel
theorem dX11_init_132 : decode cX11_init 132 = .ok (.aload_n 0, 1) := by decide +kernel
theorem dX11_init_133 : decode cX11_init 133 = .ok (.sipush 1000, 3) := by decide +kernel
theorem dX11_init_136 : decode cX11_init 136 = .ok (.newarray .int, 2) := by decide +kernel
theorem dX11_init_138 : decode cX11_init 138 = .ok (.putfield 62, 3) := by decide +kernel
theorem dX11_init_141 : decode cX11_init 141 = .ok (.aload_n 0, 1) := by decide +kernel
theorem dX11_init_142 : decode cX11_init 142 = .ok (.bipush 8, 2) := by decide +kernel
theorem dX11_init_144 : decode cX11_init 144 = .ok (.newarray .int, 2) := by decide +kernel
theorem dX11_init_146 : decode cX11_init 146 = .ok (.putfield 65, 3) := by decide +kernel
theorem dX11_init_149 : decode cX11_init 149 = .ok (.aload_n 0, 1) := by decide +kernel
theorem dX11_init_150 : decode cX11_init 150 = .ok (.bipush 32, 2) := by decide +kernel
theorem dX11_init_152 : decode cX11_init 152 = .ok (.newarray .int, 2) := by decide +kernel
theorem dX11_init_154 : decode cX11_init 154 = .ok (.putfield 68, 3) := by decide +kernel
theorem dX11_init_157 : decode cX11_init 157 = .ok (.aload_n 0, 1) := by decide +kernel
theorem dX11_init_158 : decode cX11_init 158 = .ok (.bipush 32, 2) := by decide +kernel
theorem dX11_init_160 : decode cX11_init 160 = .ok (.newarray .int, 2) := by decide +kernel
theorem dX11_init_162 : decode cX11_init 162 = .ok (.putfield 71, 3) := by decide +kernel
theorem dX11_init_165 : decode cX11_init 165 = .ok (.aload_n 0, 1) := by decide +kernel
theorem dX11_init_166 : decode cX11_init 166 = .ok (.sipush 14641, 3) := by decide +kernel
theorem dX11_init_169 : decode cX11_init 169 = .ok (.newarray .int, 2) := by decide +kernel
theorem dX11_init_171 : decode cX11_init 171 = .ok (.putfield 74, 3) := by decide +kernel
theorem dX11_init_174 : decode cX11_init 174 = .ok (.aload_n 0, 1) := by decide +kernel
theorem dX11_init_175 : decode cX11_init 175 = .ok (.bipush 12, 2) := by decide +kernel
theorem dX11_init_177 : decode cX11_init 177 = .ok (.newarray .int, 2) := by decide +kernel
theorem dX11_init_179 : decode cX11_init 179 = .ok (.putfield 77, 3) := by decide +kernel
theorem dX11_init_182 : decode cX11_init 182 = .ok (.aload_n 0, 1) := by decide +kernel
theorem dX11_init_183 : decode cX11_init 183 = .ok (.sipush 4096, 3) := by decide +kernel
theorem dX11_init_186 : decode cX11_init 186 = .ok (.newarray .int, 2) := by decide +kernel
theorem dX11_init_188 : decode cX11_init 188 = .ok (.putfield 80, 3) := by decide +kernel
theorem dX11_init_191 : decode cX11_init 191 = .ok (.iconst 0, 1) := by decide +kernel
theorem dX11_init_192 : decode cX11_init 192 = .ok (.istore_n 1, 1) := by decide +kernel
theorem dX11_init_193 : decode cX11_init 193 = .ok (.iload_n 1, 1) := by decide +kernel
theorem dX11_init_194 : decode cX11_init 194 = .ok (.iconst 4, 1) := by decide +kernel
theorem dX11_init_195 : decode cX11_init 195 = .ok (.if_icmp .ge 17, 3) := by decide +kernel
theorem dX11_init_198 : decode cX11_init 198 = .ok (.aload_n 0, 1) := by decide +kernel
theorem dX11_init_199 : decode cX11_init 199 = .ok (.getfield 38, 3) := by decide +kernel
theorem dX11_init_202 : decode cX11_init 202 = .ok (.iload_n 1, 1) := by decide +kernel
theorem dX11_init_203 : decode cX11_init 203 = .ok (.bipush 9, 2) := by decide +kernel
theorem dX11_init_205 : decode cX11_init 205 = .ok (.iastore, 1) := by decide +kernel
theorem dX11_init_206 : decode cX11_init 206 = .ok (.iinc 1 1, 3) := by decide +kernel
theorem dX11_init_209 : decode cX11_init 209 = .ok (.goto (-16), 3) := by decide +kernel
theorem dX11_init_212 : decode cX11_init 212 = .ok (.return_, 1) := by decide +kernel
theorem dX11_in_0 : decode cX11_in 0 = .ok (.lload_n 0, 1) := by decide +kernel
theorem dX11_in_1 : decode cX11_in 1 = .ok (.lload_n 2, 1) := by decide +kernel
theorem dX11_in_2 : decode cX11_in 2 = .ok (.lcmp, 1) := by decide +kernel
theorem dX11_in_3 : decode cX11_in 3 = .ok (.ifCond .lt 14, 3) := by decide +kernel
theorem dX11_in_6 : decode cX11_in 6 = .ok (.lload_n 0, 1) := by decide +kernel
theorem dX11_in_7 : decode cX11_in 7 = .ok (.lload 4, 2) := by decide +kernel
theorem dX11_in_9 : decode cX11_in 9 = .ok (.lcmp, 1) := by decide +kernel
theorem dX11_in_10 : decode cX11_in 10 = .ok (.ifCond .gt 7, 3) := by decide +kernel
theorem dX11_in_13 : decode cX11_in 13 = .ok (.iconst 1, 1) := by decide +kernel
theorem dX11_in_14 : decode cX11_in 14 = .ok (.goto 4, 3) := by decide +kernel
theorem dX11_in_17 : decode cX11_in 17 = .ok (.iconst 0, 1) := by decide +kernel
theorem dX11_in_18 : decode cX11_in 18 = .ok (.ireturn, 1) := by decide +kernel
theorem dX11_isWork_0 : decode cX11_isWork 0 = .ok (.iload_n 1, 1) := by decide +kernel
theorem dX11_isWork_1 : decode cX11_isWork 1 = .ok (.i2l, 1) := by decide +kernel
theorem dX11_isWork_2 : decode cX11_isWork 2 = .ok (.lconst 0, 1) := by decide +kernel
theorem dX11_isWork_3 : decode cX11_isWork 3 = .ok (.aload_n 0, 1) := by decide +kernel
theorem dX11_isWork_4 : decode cX11_isWork 4 = .ok (.getfield 83, 3) := by decide +kernel
theorem dX11_isWork_7 : decode cX11_isWork 7 = .ok (.iconst 1, 1) := by decide +kernel
theorem dX11_isWork_8 : decode cX11_isWork 8 = .ok (.isub, 1) := by decide +kernel
theorem dX11_isWork_9 : decode cX11_isWork 9 = .ok (.i2l, 1) := by decide +kernel
theorem dX11_isWork_10 : decode cX11_isWork 10 = .ok (.invokestatic 86, 3) := by decide +kernel
theorem dX11_isWork_13 : decode cX11_isWork 13 = .ok (.ireturn, 1) := by decide +kernel
theorem dX11_work_0 : decode cX11_work 0 = .ok (.iload_n 1, 1) := by decide +kernel
theorem dX11_work_1 : decode cX11_work 1 = .ok (.i2l, 1) := by decide +kernel
theorem dX11_work_2 : decode cX11_work 2 = .ok (.lconst 1, 1) := by decide +kernel
theorem dX11_work_3 : decode cX11_work 3 = .ok (.ldc2_w 90, 3) := by decide +kernel
theorem dX11_work_6 : decode cX11_work 6 = .ok (.invokestatic 86, 3) := by decide +kernel
theorem dX11_work_9 : decode cX11_work 9 = .ok (.ifCond .ne 6, 3) := by decide +kernel
theorem dX11_work_12 : decode cX11_work 12 = .ok (.bipush (-2), 2) := by decide +kernel
theorem dX11_work_14 : decode cX11_work 14 = .ok (.ireturn, 1) := by decide +kernel
theorem dX11_work_15 : decode cX11_work 15 = .ok (.aload_n 0, 1) := by decide +kernel
theorem dX11_work_16 : decode cX11_work 16 = .ok (.getfield 83, 3) := by decide +kernel
theorem dX11_work_19 : decode cX11_work 19 = .ok (.bipush 8, 2) := by decide +kernel
theorem dX11_work_21 : decode cX11_work 21 = .ok (.if_icmp .ne 6, 3) := by decide +kernel
theorem dX11_work_24 : decode cX11_work 24 = .ok (.bipush (-4), 2) := by decide +kernel
theorem dX11_work_26 : decode cX11_work 26 = .ok (.ireturn, 1) := by decide +kernel
theorem dX11_work_27 : decode cX11_work 27 = .ok (.aload_n 0, 1) := by decide +kernel
theorem dX11_work_28 : decode cX11_work 28 = .ok (.getfield 7, 3) := by decide +kernel
theorem dX11_work_31 : decode cX11_work 31 = .ok (.aload_n 0, 1) := by decide +kernel
theorem dX11_work_32 : decode cX11_work 32 = .ok (.getfield 83, 3) := by decide +kernel
theorem dX11_work_35 : decode cX11_work 35 = .ok (.iload_n 1, 1) := by decide +kernel
theorem dX11_work_36 : decode cX11_work 36 = .ok (.iastore, 1) := by decide +kernel
theorem dX11_work_37 : decode cX11_work 37 = .ok (.aload_n 0, 1) := by decide +kernel
theorem dX11_work_38 : decode cX11_work 38 = .ok (.getfield 13, 3) := by decide +kernel
theorem dX11_work_41 : decode cX11_work 41 = .ok (.aload_n 0, 1) := by decide +kernel
theorem dX11_work_42 : decode cX11_work 42 = .ok (.getfield 83, 3) := by decide +kernel
theorem dX11_work_45 : decode cX11_work 45 = .ok (.iconst 0, 1) := by decide +kernel
theorem dX11_work_46 : decode cX11_work 46 = .ok (.iastore, 1) := by decide +kernel
theorem dX11_work_47 : decode cX11_work 47 = .ok (.aload_n 0, 1) := by decide +kernel
theorem dX11_work_48 : decode cX11_work 48 = .ok (.getfield 16, 3) := by decide +kernel
theorem dX11_work_51 : decode cX11_work 51 = .ok (.aload_n 0, 1) := by decide +kernel
theorem dX11_work_52 : decode cX11_work 52 = .ok (.getfield 83, 3) := by decide +kernel
theorem dX11_work_55 : decode cX11_work 55 = .ok (.sipush 300, 3) := by decide +kernel
theorem dX11_work_58 : decode cX11_work 58 = .ok (.iastore, 1) := by decide +kernel
theorem dX11_work_59 : decode cX11_work 59 = .ok (.aload_n 0, 1) := by decide +kernel
theorem dX11_work_60 : decode cX11_work 60 = .ok (.getfield 19, 3) := by decide +kernel
theorem dX11_work_63 : decode cX11_work 63 = .ok (.aload_n 0, 1) := by decide +kernel
theorem dX11_work_64 : decode cX11_work 64 = .ok (.getfield 83, 3) := by decide +kernel
theorem dX11_work_67 : decode cX11_work 67 = .ok (.iconst 1, 1) := by decide +kernel
theorem dX11_work_68 : decode cX11_work 68 = .ok (.iastore, 1) := by decide +kernel
theorem dX11_work_69 : decode cX11_work 69 = .ok (.aload_n 0, 1) := by decide +kernel
theorem dX11_work_70 : decode cX11_work 70 = .ok (.getfield 22, 3) := by decide +kernel
theorem dX11_work_73 : decode cX11_work 73 = .ok (.aload_n 0, 1) := by decide +kernel
theorem dX11_work_74 : decode cX11_work 74 = .ok (.getfield 83, 3) := by decide +kernel
theorem dX11_work_77 : decode cX11_work 77 = .ok (.iconst 0, 1) := by decide +kernel
theorem dX11_work_78 : decode cX11_work 78 = .ok (.iastore, 1) := by decide +kernel
theorem dX11_work_79 : decode cX11_work 79 = .ok (.aload_n 0, 1) := by decide +kernel
theorem dX11_work_80 : decode cX11_work 80 = .ok (.getfield 25, 3) := by decide +kernel
theorem dX11_work_83 : decode cX11_work 83 = .ok (.aload_n 0, 1) := by decide +kernel
theorem dX11_work_84 : decode cX11_work 84 = .ok (.getfield 83, 3) := by decide +kernel
theorem dX11_work_87 : decode cX11_work 87 = .ok (.iconst 0, 1) := by decide +kernel
theorem dX11_work_88 : decode cX11_work 88 = .ok (.iastore, 1) := by decide +kernel
theorem dX11_work_89 : decode cX11_work 89 = .ok (.iconst 0, 1) := by decide +kernel
theorem dX11_work_90 : decode cX11_work 90 = .ok (.istore_n 2, 1) := by decide +kernel
theorem dX11_work_91 : decode cX11_work 91 = .ok (.iload_n 2, 1) := by decide +kernel
theorem dX11_work_92 : decode cX11_work 92 = .ok (.iconst 4, 1) := by decide +kernel
theorem dX11_work_93 : decode cX11_work 93 = .ok (.if_icmp .ge 31, 3) := by decide +kernel
theorem dX11_work_96 : decode cX11_work 96 = .ok (.aload_n 0, 1) := by decide +kernel
theorem dX11_work_97 : decode cX11_work 97 = .ok (.getfield 31, 3) := by decide +kernel
theorem dX11_work_100 : decode cX11_work 100 = .ok (.iconst 4, 1) := by decide +kernel
theorem dX11_work_101 : decode cX11_work 101 = .ok (.aload_n 0, 1) := by decide +kernel
theorem dX11_work_102 : decode cX11_work 102 = .ok (.getfield 83, 3) := by decide +kernel
theorem dX11_work_105 : decode cX11_work 105 = .ok (.imul, 1) := by decide +kernel
theorem dX11_work_106 : decode cX11_work 106 = .ok (.iload_n 2, 1) := by decide +kernel
theorem dX11_work_107 : decode cX11_work 107 = .ok (.iadd, 1) := by decide +kernel
theorem dX11_work_108 : decode cX11_work 108 = .ok (.iload_n 2, 1) := by decide +kernel
theorem dX11_work_109 : decode cX11_work 109 = .ok (.ifCond .ne 7, 3) := by decide +kernel
theorem dX11_work_112 : decode cX11_work 112 = .ok (.iload_n 1, 1) := by decide +kernel
theorem dX11_work_113 : decode cX11_work 113 = .ok (.goto 4, 3) := by decide +kernel
theorem dX11_work_116 : decode cX11_work 116 = .ok (.iconst 1, 1) := by decide +kernel
theorem dX11_work_117 : decode cX11_work 117 = .ok (.iastore, 1) := by decide +kernel
theorem dX11_work_118 : decode cX11_work 118 = .ok (.iinc 2 1, 3) := by decide +kernel
theorem dX11_work_121 : decode cX11_work 121 = .ok (.goto (-30), 3) := by decide +kernel
theorem dX11_work_124 : decode cX11_work 124 = .ok (.aload_n 0, 1) := by decide +kernel
theorem dX11_work_125 : decode cX11_work 125 = .ok (.dup, 1) := by decide +kernel
theorem dX11_work_126 : decode cX11_work 126 = .ok (.getfield 83, 3) := by decide +kernel
theorem dX11_work_129 : decode cX11_work 129 = .ok (.iconst 1, 1) := by decide +kernel
theorem dX11_work_130 : decode cX11_work 130 = .ok (.iadd, 1) := by decide +kernel
theorem dX11_work_131 : decode cX11_work 131 = .ok (.putfield 83, 3) := by decide +kernel
theorem dX11_work_134 : decode cX11_work 134 = .ok (.aload_n 0, 1) := by decide +kernel
theorem dX11_work_135 : decode cX11_work 135 = .ok (.getfield 83, 3) := by decide +kernel
theorem dX11_work_138 : decode cX11_work 138 = .ok (.iconst 1, 1) := by decide +kernel
theorem dX11_work_139 : decode cX11_work 139 = .ok (.isub, 1) := by decide +kernel
theorem dX11_work_140 : decode cX11_work 140 = .ok (.ireturn, 1) := by decide +kernel
theorem dX11_put_0 : decode cX11_put 0 = .ok (.aload_n 0, 1) := by decide +kernel
theorem dX11_put_1 : decode cX11_put 1 = .ok (.iload_n 1, 1) := by decide +kernel
theorem dX11_put_2 : decode cX11_put 2 = .ok (.invokevirtual 92, 3) := by decide +kernel
theorem dX11_put_5 : decode cX11_put 5 = .ok (.ifCond .eq 15, 3) := by decide +kernel
theorem dX11_put_8 : decode cX11_put 8 = .ok (.iload_n 2, 1) := by decide +kernel
theorem dX11_put_9 : decode cX11_put 9 = .ok (.i2l, 1) := by decide +kernel
theorem dX11_put_10 : decode cX11_put 10 = .ok (.lconst 0, 1) := by decide +kernel
theorem dX11_put_11 : decode cX11_put 11 = .ok (.ldc2_w 96, 3) := by decide +kernel
theorem dX11_put_14 : decode cX11_put 14 = .ok (.invokestatic 86, 3) := by decide +kernel
theorem dX11_put_17 : decode cX11_put 17 = .ok (.ifCond .ne 6, 3) := by decide +kernel
theorem dX11_put_20 : decode cX11_put 20 = .ok (.bipush (-2), 2) := by decide +kernel
theorem dX11_put_22 : decode cX11_put 22 = .ok (.ireturn, 1) := by decide +kernel
theorem dX11_put_23 : decode cX11_put 23 = .ok (.bipush (-2), 2) := by decide +kernel
theorem dX11_put_25 : decode cX11_put 25 = .ok (.istore 4, 2) := by decide +kernel
theorem dX11_put_27 : decode cX11_put 27 = .ok (.iload_n 2, 1) := by decide +kernel
theorem dX11_put_28 : decode cX11_put 28 = .ok (.ifCond .ne 33, 3) := by decide +kernel
theorem dX11_put_31 : decode cX11_put 31 = .ok (.iload_n 3, 1) := by decide +kernel
theorem dX11_put_32 : decode cX11_put 32 = .ok (.i2l, 1) := by decide +kernel
theorem dX11_put_33 : decode cX11_put 33 = .ok (.lconst 1, 1) := by decide +kernel
theorem dX11_put_34 : decode cX11_put 34 = .ok (.ldc2_w 90, 3) := by decide +kernel
theorem dX11_put_37 : decode cX11_put 37 = .ok (.invokestatic 86, 3) := by decide +kernel
theorem dX11_put_40 : decode cX11_put 40 = .ok (.ifCond .eq 21, 3) := by decide +kernel
theorem dX11_put_43 : decode cX11_put 43 = .ok (.aload_n 0, 1) := by decide +kernel
theorem dX11_put_44 : decode cX11_put 44 = .ok (.getfield 7, 3) := by decide +kernel
theorem dX11_put_47 : decode cX11_put 47 = .ok (.iload_n 1, 1) := by decide +kernel
theorem dX11_put_48 : decode cX11_put 48 = .ok (.iaload, 1) := by decide +kernel
theorem dX11_put_49 : decode cX11_put 49 = .ok (.istore 4, 2) := by decide +kernel
theorem dX11_put_51 : decode cX11_put 51 = .ok (.aload_n 0, 1) := by decide +kernel
theorem dX11_put_52 : decode cX11_put 52 = .ok (.getfield 7, 3) := by decide +kernel
theorem dX11_put_55 : decode cX11_put 55 = .ok (.iload_n 1, 1) := by decide +kernel
theorem dX11_put_56 : decode cX11_put 56 = .ok (.iload_n 3, 1) := by decide +kernel
theorem dX11_put_57 : decode cX11_put 57 = .ok (.iastore, 1) := by decide +kernel
theorem dX11_put_58 : decode cX11_put 58 = .ok (.goto 140, 3) := by decide +kernel
theorem dX11_put_61 : decode cX11_put 61 = .ok (.iload_n 2, 1) := by decide +kernel
theorem dX11_put_62 : decode cX11_put 62 = .ok (.iconst 1, 1) := by decide +kernel
theorem dX11_put_63 : decode cX11_put 63 = .ok (.if_icmp .ne 33, 3) := by decide +kernel
theorem dX11_put_66 : decode cX11_put 66 = .ok (.iload_n 3, 1) := by decide +kernel
theorem dX11_put_67 : decode cX11_put 67 = .ok (.i2l, 1) := by decide +kernel
theorem dX11_put_68 : decode cX11_put 68 = .ok (.lconst 0, 1) := by decide +kernel
theorem dX11_put_69 : decode cX11_put 69 = .ok (.ldc2_w 98, 3) := by decide +kernel
theorem dX11_put_72 : decode cX11_put 72 = .ok (.invokestatic 86, 3) := by decide +kernel
theorem dX11_put_75 : decode cX11_put 75 = .ok (.ifCond .eq 21, 3) := by decide +kernel
theorem dX11_put_78 : decode cX11_put 78 = .ok (.aload_n 0, 1) := by decide +kernel
theorem dX11_put_79 : decode cX11_put 79 = .ok (.getfield 13, 3) := by decide +kernel
theorem dX11_put_82 : decode cX11_put 82 = .ok (.iload_n 1, 1) := by decide +kernel
theorem dX11_put_83 : decode cX11_put 83 = .ok (.iaload, 1) := by decide +kernel
theorem dX11_put_84 : decode cX11_put 84 = .ok (.istore 4, 2) := by decide +kernel
theorem dX11_put_86 : decode cX11_put 86 = .ok (.aload_n 0, 1) := by decide +kernel
theorem dX11_put_87 : decode cX11_put 87 = .ok (.getfield 13, 3) := by decide +kernel
theorem dX11_put_90 : decode cX11_put 90 = .ok (.iload_n 1, 1) := by decide +kernel
theorem dX11_put_91 : decode cX11_put 91 = .ok (.iload_n 3, 1) := by decide +kernel
theorem dX11_put_92 : decode cX11_put 92 = .ok (.iastore, 1) := by decide +kernel
theorem dX11_put_93 : decode cX11_put 93 = .ok (.goto 105, 3) := by decide +kernel
theorem dX11_put_96 : decode cX11_put 96 = .ok (.iload_n 2, 1) := by decide +kernel
theorem dX11_put_97 : decode cX11_put 97 = .ok (.iconst 2, 1) := by decide +kernel
theorem dX11_put_98 : decode cX11_put 98 = .ok (.if_icmp .ne 33, 3) := by decide +kernel
theorem dX11_put_101 : decode cX11_put 101 = .ok (.iload_n 3, 1) := by decide +kernel
theorem dX11_put_102 : decode cX11_put 102 = .ok (.i2l, 1) := by decide +kernel
theorem dX11_put_103 : decode cX11_put 103 = .ok (.lconst 0, 1) := by decide +kernel
theorem dX11_put_104 : decode cX11_put 104 = .ok (.ldc2_w 100, 3) := by decide +kernel
theorem dX11_put_107 : decode cX11_put 107 = .ok (.invokestatic 86, 3) := by decide +kernel
theorem dX11_put_110 : decode cX11_put 110 = .ok (.ifCond .eq 21, 3) := by decide +kernel
theorem dX11_put_113 : decode cX11_put 113 = .ok (.aload_n 0, 1) := by decide +kernel
theorem dX11_put_114 : decode cX11_put 114 = .ok (.getfield 16, 3) := by decide +kernel
theorem dX11_put_117 : decode cX11_put 117 = .ok (.iload_n 1, 1) := by decide +kernel
theorem dX11_put_118 : decode cX11_put 118 = .ok (.iaload, 1) := by decide +kernel
theorem dX11_put_119 : decode cX11_put 119 = .ok (.istore 4, 2) := by decide +kernel
theorem dX11_put_121 : decode cX11_put 121 = .ok (.aload_n 0, 1) := by decide +kernel
theorem dX11_put_122 : decode cX11_put 122 = .ok (.getfield 16, 3) := by decide +kernel
theorem dX11_put_125 : decode cX11_put 125 = .ok (.iload_n 1, 1) := by decide +kernel
theorem dX11_put_126 : decode cX11_put 126 = .ok (.iload_n 3, 1) := by decide +kernel
theorem dX11_put_127 : decode cX11_put 127 = .ok (.iastore, 1) := by decide +kernel
theorem dX11_put_128 : decode cX11_put 128 = .ok (.goto 70, 3) := by decide +kernel
theorem dX11_put_131 : decode cX11_put 131 = .ok (.iload_n 2, 1) := by decide +kernel
theorem dX11_put_132 : decode cX11_put 132 = .ok (.iconst 3, 1) := by decide +kernel
theorem dX11_put_133 : decode cX11_put 133 = .ok (.if_icmp .ne 33, 3) := by decide +kernel
theorem dX11_put_136 : decode cX11_put 136 = .ok (.iload_n 3, 1) := by decide +kernel
theorem dX11_put_137 : decode cX11_put 137 = .ok (.i2l, 1) := by decide +kernel
theorem dX11_put_138 : decode cX11_put 138 = .ok (.lconst 0, 1) := by decide +kernel
theorem dX11_put_139 : decode cX11_put 139 = .ok (.ldc2_w 102, 3) := by decide +kernel
theorem dX11_put_142 : decode cX11_put 142 = .ok (.invokestatic 86, 3) := by decide +kernel
theorem dX11_put_145 : decode cX11_put 145 = .ok (.ifCond .eq 21, 3) := by decide +kernel
theorem dX11_put_148 : decode cX11_put 148 = .ok (.aload_n 0, 1) := by decide +kernel
theorem dX11_put_149 : decode cX11_put 149 = .ok (.getfield 19, 3) := by decide +kernel
theorem dX11_put_152 : decode cX11_put 152 = .ok (.iload_n 1, 1) := by decide +kernel
theorem dX11_put_153 : decode cX11_put 153 = .ok (.iaload, 1) := by decide +kernel
theorem dX11_put_154 : decode cX11_put 154 = .ok (.istore 4, 2) := by decide +kernel
theorem dX11_put_156 : decode cX11_put 156 = .ok (.aload_n 0, 1) := by decide +kernel
theorem dX11_put_157 : decode cX11_put 157 = .ok (.getfield 19, 3) := by decide +kernel
theorem dX11_put_160 : decode cX11_put 160 = .ok (.iload_n 1, 1) := by decide +kernel
theorem dX11_put_161 : decode cX11_put 161 = .ok (.iload_n 3, 1) := by decide +kernel
theorem dX11_put_162 : decode cX11_put 162 = .ok (.iastore, 1) := by decide +kernel
theorem dX11_put_163 : decode cX11_put 163 = .ok (.goto 35, 3) := by decide +kernel
theorem dX11_put_166 : decode cX11_put 166 = .ok (.iload_n 2, 1) := by decide +kernel
theorem dX11_put_167 : decode cX11_put 167 = .ok (.iconst 4, 1) := by decide +kernel
theorem dX11_put_168 : decode cX11_put 168 = .ok (.if_icmp .ne 30, 3) := by decide +kernel
theorem dX11_put_171 : decode cX11_put 171 = .ok (.iload_n 3, 1) := by decide +kernel
theorem dX11_put_172 : decode cX11_put 172 = .ok (.i2l, 1) := by decide +kernel
theorem dX11_put_173 : decode cX11_put 173 = .ok (.lconst 0, 1) := by decide +kernel
theorem dX11_put_174 : decode cX11_put 174 = .ok (.ldc2_w 104, 3) := by decide +kernel
theorem dX11_put_177 : decode cX11_put 177 = .ok (.invokestatic 86, 3) := by decide +kernel
theorem dX11_put_180 : decode cX11_put 180 = .ok (.ifCond .eq 18, 3) := by decide +kernel
theorem dX11_put_183 : decode cX11_put 183 = .ok (.aload_n 0, 1) := by decide +kernel
theorem dX11_put_184 : decode cX11_put 184 = .ok (.getfield 22, 3) := by decide +kernel
theorem dX11_put_187 : decode cX11_put 187 = .ok (.iload_n 1, 1) := by decide +kernel
theorem dX11_put_188 : decode cX11_put 188 = .ok (.iaload, 1) := by decide +kernel
theorem dX11_put_189 : decode cX11_put 189 = .ok (.istore 4, 2) := by decide +kernel
theorem dX11_put_191 : decode cX11_put 191 = .ok (.aload_n 0, 1) := by decide +kernel
theorem dX11_put_192 : decode cX11_put 192 = .ok (.getfield 22, 3) := by decide +kernel
theorem dX11_put_195 : decode cX11_put 195 = .ok (.iload_n 1, 1) := by decide +kernel
theorem dX11_put_196 : decode cX11_put 196 = .ok (.iload_n 3, 1) := by decide +kernel
theorem dX11_put_197 : decode cX11_put 197 = .ok (.iastore, 1) := by decide +kernel
theorem dX11_put_198 : decode cX11_put 198 = .ok (.iload 4, 2) := by decide +kernel
theorem dX11_put_200 : decode cX11_put 200 = .ok (.ireturn, 1) := by decide +kernel
theorem dX11_allAhead_0 : decode cX11_allAhead 0 = .ok (.aload_n 0, 1) := by decide +kernel
theorem dX11_allAhead_1 : decode cX11_allAhead 1 = .ok (.getfield 25, 3) := by decide +kernel
theorem dX11_allAhead_4 : decode cX11_allAhead 4 = .ok (.iload_n 1, 1) := by decide +kernel
theorem dX11_allAhead_5 : decode cX11_allAhead 5 = .ok (.iaload, 1) := by decide +kernel
theorem dX11_allAhead_6 : decode cX11_allAhead 6 = .ok (.istore_n 2, 1) := by decide +kernel
theorem dX11_allAhead_7 : decode cX11_allAhead 7 = .ok (.iconst 0, 1) := by decide +kernel
theorem dX11_allAhead_8 : decode cX11_allAhead 8 = .ok (.istore_n 3, 1) := by decide +kernel
theorem dX11_allAhead_9 : decode cX11_allAhead 9 = .ok (.iload_n 3, 1) := by decide +kernel
theorem dX11_allAhead_10 : decode cX11_allAhead 10 = .ok (.bipush 8, 2) := by decide +kernel
theorem dX11_allAhead_12 : decode cX11_allAhead 12 = .ok (.if_icmp .ge 51, 3) := by decide +kernel
theorem dX11_allAhead_15 : decode cX11_allAhead 15 = .ok (.iconst 0, 1) := by decide +kernel
theorem dX11_allAhead_16 : decode cX11_allAhead 16 = .ok (.istore 4, 2) := by decide +kernel
theorem dX11_allAhead_18 : decode cX11_allAhead 18 = .ok (.iload 4, 2) := by decide +kernel
theorem dX11_allAhead_20 : decode cX11_allAhead 20 = .ok (.aload_n 0, 1) := by decide +kernel
theorem dX11_allAhead_21 : decode cX11_allAhead 21 = .ok (.getfield 83, 3) := by decide +kernel
theorem dX11_allAhead_24 : decode cX11_allAhead 24 = .ok (.if_icmp .ge 33, 3) := by decide +kernel
theorem dX11_allAhead_27 : decode cX11_allAhead 27 = .ok (.iload_n 2, 1) := by decide +kernel
theorem dX11_allAhead_28 : decode cX11_allAhead 28 = .ok (.iload_n 2, 1) := by decide +kernel
theorem dX11_allAhead_29 : decode cX11_allAhead 29 = .ok (.iload 4, 2) := by decide +kernel
theorem dX11_allAhead_31 : decode cX11_allAhead 31 = .ok (.ishr, 1) := by decide +kernel
theorem dX11_allAhead_32 : decode cX11_allAhead 32 = .ok (.iconst 1, 1) := by decide +kernel
theorem dX11_allAhead_33 : decode cX11_allAhead 33 = .ok (.iand, 1) := by decide +kernel
theorem dX11_allAhead_34 : decode cX11_allAhead 34 = .ok (.iconst 1, 1) := by decide +kernel
theorem dX11_allAhead_35 : decode cX11_allAhead 35 = .ok (.if_icmp .ne 13, 3) := by decide +kernel
theorem dX11_allAhead_38 : decode cX11_allAhead 38 = .ok (.aload_n 0, 1) := by decide +kernel
theorem dX11_allAhead_39 : decode cX11_allAhead 39 = .ok (.getfield 25, 3) := by decide +kernel
theorem dX11_allAhead_42 : decode cX11_allAhead 42 = .ok (.iload 4, 2) := by decide +kernel
theorem dX11_allAhead_44 : decode cX11_allAhead 44 = .ok (.iaload, 1) := by decide +kernel
theorem dX11_allAhead_45 : decode cX11_allAhead 45 = .ok (.goto 4, 3) := by decide +kernel
theorem dX11_allAhead_48 : decode cX11_allAhead 48 = .ok (.iconst 0, 1) := by decide +kernel
theorem dX11_allAhead_49 : decode cX11_allAhead 49 = .ok (.ior, 1) := by decide +kernel
theorem dX11_allAhead_50 : decode cX11_allAhead 50 = .ok (.istore_n 2, 1) := by decide +kernel
theorem dX11_allAhead_51 : decode cX11_allAhead 51 = .ok (.iinc 4 1, 3) := by decide +kernel
theorem dX11_allAhead_54 : decode cX11_allAhead 54 = .ok (.goto (-36), 3) := by decide +kernel
theorem dX11_allAhead_57 : decode cX11_allAhead 57 = .ok (.iinc 3 1, 3) := by decide +kernel
theorem dX11_allAhead_60 : decode cX11_allAhead 60 = .ok (.goto (-51), 3) := by decide +kernel
theorem dX11_allAhead_63 : decode cX11_allAhead 63 = .ok (.iload_n 2, 1) := by decide +kernel
theorem dX11_allAhead_64 : decode cX11_allAhead 64 = .ok (.ireturn, 1) := by decide +kernel
theorem dX11_ahead_0 : decode cX11_ahead 0 = .ok (.aload_n 0, 1) := by decide +kernel
theorem dX11_ahead_1 : decode cX11_ahead 1 = .ok (.iload_n 1, 1) := by decide +kernel
theorem dX11_ahead_2 : decode cX11_ahead 2 = .ok (.invokevirtual 92, 3) := by decide +kernel
theorem dX11_ahead_5 : decode cX11_ahead 5 = .ok (.ifCond .eq 16, 3) := by decide +kernel
theorem dX11_ahead_8 : decode cX11_ahead 8 = .ok (.aload_n 0, 1) := by decide +kernel
theorem dX11_ahead_9 : decode cX11_ahead 9 = .ok (.iload_n 2, 1) := by decide +kernel
theorem dX11_ahead_10 : decode cX11_ahead 10 = .ok (.invokevirtual 92, 3) := by decide +kernel
theorem dX11_ahead_13 : decode cX11_ahead 13 = .ok (.ifCond .eq 8, 3) := by decide +kernel
theorem dX11_ahead_16 : decode cX11_ahead 16 = .ok (.iload_n 1, 1) := by decide +kernel
theorem dX11_ahead_17 : decode cX11_ahead 17 = .ok (.iload_n 2, 1) := by decide +kernel
theorem dX11_ahead_18 : decode cX11_ahead 18 = .ok (.if_icmp .ne 6, 3) := by decide +kernel
theorem dX11_ahead_21 : decode cX11_ahead 21 = .ok (.bipush (-2), 2) := by decide +kernel
theorem dX11_ahead_23 : decode cX11_ahead 23 = .ok (.ireturn, 1) := by decide +kernel
theorem dX11_ahead_24 : decode cX11_ahead 24 = .ok (.aload_n 0, 1) := by decide +kernel
theorem dX11_ahead_25 : decode cX11_ahead 25 = .ok (.getfield 25, 3) := by decide +kernel
theorem dX11_ahead_28 : decode cX11_ahead 28 = .ok (.iload_n 2, 1) := by decide +kernel
theorem dX11_ahead_29 : decode cX11_ahead 29 = .ok (.iaload, 1) := by decide +kernel
theorem dX11_ahead_30 : decode cX11_ahead 30 = .ok (.iload_n 1, 1) := by decide +kernel
theorem dX11_ahead_31 : decode cX11_ahead 31 = .ok (.ishr, 1) := by decide +kernel
theorem dX11_ahead_32 : decode cX11_ahead 32 = .ok (.iconst 1, 1) := by decide +kernel
theorem dX11_ahead_33 : decode cX11_ahead 33 = .ok (.iand, 1) := by decide +kernel
theorem dX11_ahead_34 : decode cX11_ahead 34 = .ok (.iconst 1, 1) := by decide +kernel
theorem dX11_ahead_35 : decode cX11_ahead 35 = .ok (.if_icmp .ne 7, 3) := by decide +kernel
theorem dX11_ahead_38 : decode cX11_ahead 38 = .ok (.iconst 1, 1) := by decide +kernel
theorem dX11_ahead_39 : decode cX11_ahead 39 = .ok (.goto 4, 3) := by decide +kernel
theorem dX11_ahead_42 : decode cX11_ahead 42 = .ok (.iconst 0, 1) := by decide +kernel
theorem dX11_ahead_43 : decode cX11_ahead 43 = .ok (.istore 4, 2) := by decide +kernel
theorem dX11_ahead_45 : decode cX11_ahead 45 = .ok (.iload 4, 2) := by decide +kernel
theorem dX11_ahead_47 : decode cX11_ahead 47 = .ok (.iload_n 3, 1) := by decide +kernel
theorem dX11_ahead_48 : decode cX11_ahead 48 = .ok (.if_icmp .eq 20, 3) := by decide +kernel
theorem dX11_ahead_51 : decode cX11_ahead 51 = .ok (.iload_n 3, 1) := by decide +kernel
theorem dX11_ahead_52 : decode cX11_ahead 52 = .ok (.ifCond .eq 19, 3) := by decide +kernel
theorem dX11_ahead_55 : decode cX11_ahead 55 = .ok (.aload_n 0, 1) := by decide +kernel
theorem dX11_ahead_56 : decode cX11_ahead 56 = .ok (.iload_n 1, 1) := by decide +kernel
theorem dX11_ahead_57 : decode cX11_ahead 57 = .ok (.invokevirtual 106, 3) := by decide +kernel
theorem dX11_ahead_60 : decode cX11_ahead 60 = .ok (.iload_n 2, 1) := by decide +kernel
theorem dX11_ahead_61 : decode cX11_ahead 61 = .ok (.ishr, 1) := by decide +kernel
theorem dX11_ahead_62 : decode cX11_ahead 62 = .ok (.iconst 1, 1) := by decide +kernel
theorem dX11_ahead_63 : decode cX11_ahead 63 = .ok (.iand, 1) := by decide +kernel
theorem dX11_ahead_64 : decode cX11_ahead 64 = .ok (.iconst 1, 1) := by decide +kernel
theorem dX11_ahead_65 : decode cX11_ahead 65 = .ok (.if_icmp .ne 6, 3) := by decide +kernel
theorem dX11_ahead_68 : decode cX11_ahead 68 = .ok (.bipush (-3), 2) := by decide +kernel
theorem dX11_ahead_70 : decode cX11_ahead 70 = .ok (.ireturn, 1) := by decide +kernel
theorem dX11_ahead_71 : decode cX11_ahead 71 = .ok (.aload_n 0, 1) := by decide +kernel
theorem dX11_ahead_72 : decode cX11_ahead 72 = .ok (.getfield 25, 3) := by decide +kernel
theorem dX11_ahead_75 : decode cX11_ahead 75 = .ok (.iload_n 2, 1) := by decide +kernel
theorem dX11_ahead_76 : decode cX11_ahead 76 = .ok (.aload_n 0, 1) := by decide +kernel
theorem dX11_ahead_77 : decode cX11_ahead 77 = .ok (.getfield 25, 3) := by decide +kernel
theorem dX11_ahead_80 : decode cX11_ahead 80 = .ok (.iload_n 2, 1) := by decide +kernel
theorem dX11_ahead_81 : decode cX11_ahead 81 = .ok (.iaload, 1) := by decide +kernel
theorem dX11_ahead_82 : decode cX11_ahead 82 = .ok (.iconst 1, 1) := by decide +kernel
theorem dX11_ahead_83 : decode cX11_ahead 83 = .ok (.iload_n 1, 1) := by decide +kernel
theorem dX11_ahead_84 : decode cX11_ahead 84 = .ok (.ishl, 1) := by decide +kernel
theorem dX11_ahead_85 : decode cX11_ahead 85 = .ok (.ixor, 1) := by decide +kernel
theorem dX11_ahead_86 : decode cX11_ahead 86 = .ok (.iastore, 1) := by decide +kernel
theorem dX11_ahead_87 : decode cX11_ahead 87 = .ok (.iconst 1, 1) := by decide +kernel
theorem dX11_ahead_88 : decode cX11_ahead 88 = .ok (.ireturn, 1) := by decide +kernel
theorem dX11_isTool_0 : decode cX11_isTool 0 = .ok (.iload_n 0, 1) := by decide +kernel
theorem dX11_isTool_1 : decode cX11_isTool 1 = .ok (.i2l, 1) := by decide +kernel
theorem dX11_isTool_2 : decode cX11_isTool 2 = .ok (.lconst 0, 1) := by decide +kernel
theorem dX11_isTool_3 : decode cX11_isTool 3 = .ok (.ldc2_w 104, 3) := by decide +kernel
theorem dX11_isTool_6 : decode cX11_isTool 6 = .ok (.invokestatic 86, 3) := by decide +kernel
theorem dX11_isTool_9 : decode cX11_isTool 9 = .ok (.ireturn, 1) := by decide +kernel
theorem dX11_change_0 : decode cX11_change 0 = .ok (.iload_n 1, 1) := by decide +kernel
theorem dX11_change_1 : decode cX11_change 1 = .ok (.invokestatic 110, 3) := by decide +kernel
theorem dX11_change_4 : decode cX11_change 4 = .ok (.ifCond .eq 27, 3) := by decide +kernel
theorem dX11_change_7 : decode cX11_change 7 = .ok (.iload_n 2, 1) := by decide +kernel
theorem dX11_change_8 : decode cX11_change 8 = .ok (.invokestatic 110, 3) := by decide +kernel
theorem dX11_change_11 : decode cX11_change 11 = .ok (.ifCond .eq 20, 3) := by decide +kernel
theorem dX11_change_14 : decode cX11_change 14 = .ok (.iload_n 1, 1) := by decide +kernel
theorem dX11_change_15 : decode cX11_change 15 = .ok (.iload_n 2, 1) := by decide +kernel
theorem dX11_change_16 : decode cX11_change 16 = .ok (.if_icmp .eq 15, 3) := by decide +kernel
theorem dX11_change_19 : decode cX11_change 19 = .ok (.iload_n 3, 1) := by decide +kernel
theorem dX11_change_20 : decode cX11_change 20 = .ok (.i2l, 1) := by decide +kernel
theorem dX11_change_21 : decode cX11_change 21 = .ok (.lconst 0, 1) := by decide +kernel
theorem dX11_change_22 : decode cX11_change 22 = .ok (.ldc2_w 102, 3) := by decide +kernel
theorem dX11_change_25 : decode cX11_change 25 = .ok (.invokestatic 86, 3) := by decide +kernel
theorem dX11_change_28 : decode cX11_change 28 = .ok (.ifCond .ne 6, 3) := by decide +kernel
theorem dX11_change_31 : decode cX11_change 31 = .ok (.bipush (-2), 2) := by decide +kernel
theorem dX11_change_33 : decode cX11_change 33 = .ok (.ireturn, 1) := by decide +kernel
theorem dX11_change_34 : decode cX11_change 34 = .ok (.aload_n 0, 1) := by decide +kernel
theorem dX11_change_35 : decode cX11_change 35 = .ok (.getfield 28, 3) := by decide +kernel
theorem dX11_change_38 : decode cX11_change 38 = .ok (.iconst 3, 1) := by decide +kernel
theorem dX11_change_39 : decode cX11_change 39 = .ok (.iload_n 1, 1) := by decide +kernel
theorem dX11_change_40 : decode cX11_change 40 = .ok (.imul, 1) := by decide +kernel
theorem dX11_change_41 : decode cX11_change 41 = .ok (.iload_n 2, 1) := by decide +kernel
theorem dX11_change_42 : decode cX11_change 42 = .ok (.iadd, 1) := by decide +kernel
theorem dX11_change_43 : decode cX11_change 43 = .ok (.iaload, 1) := by decide +kernel
theorem dX11_change_44 : decode cX11_change 44 = .ok (.istore 4, 2) := by decide +kernel
theorem dX11_change_46 : decode cX11_change 46 = .ok (.aload_n 0, 1) := by decide +kernel
theorem dX11_change_47 : decode cX11_change 47 = .ok (.getfield 28, 3) := by decide +kernel
theorem dX11_change_50 : decode cX11_change 50 = .ok (.iconst 3, 1) := by decide +kernel
theorem dX11_change_51 : decode cX11_change 51 = .ok (.iload_n 1, 1) := by decide +kernel
theorem dX11_change_52 : decode cX11_change 52 = .ok (.imul, 1) := by decide +kernel
theorem dX11_change_53 : decode cX11_change 53 = .ok (.iload_n 2, 1) := by decide +kernel
theorem dX11_change_54 : decode cX11_change 54 = .ok (.iadd, 1) := by decide +kernel
theorem dX11_change_55 : decode cX11_change 55 = .ok (.iload_n 3, 1) := by decide +kernel
theorem dX11_change_56 : decode cX11_change 56 = .ok (.iastore, 1) := by decide +kernel
theorem dX11_change_57 : decode cX11_change 57 = .ok (.iload 4, 2) := by decide +kernel
theorem dX11_change_59 : decode cX11_change 59 = .ok (.ireturn, 1) := by decide +kernel
theorem dX11_isLawful_0 : decode cX11_isLawful 0 = .ok (.iconst 0, 1) := by decide +kernel
theorem dX11_isLawful_1 : decode cX11_isLawful 1 = .ok (.istore_n 1, 1) := by decide +kernel
theorem dX11_isLawful_2 : decode cX11_isLawful 2 = .ok (.iconst 0, 1) := by decide +kernel
theorem dX11_isLawful_3 : decode cX11_isLawful 3 = .ok (.istore_n 2, 1) := by decide +kernel
theorem dX11_isLawful_4 : decode cX11_isLawful 4 = .ok (.iload_n 2, 1) := by decide +kernel
theorem dX11_isLawful_5 : decode cX11_isLawful 5 = .ok (.aload_n 0, 1) := by decide +kernel
theorem dX11_isLawful_6 : decode cX11_isLawful 6 = .ok (.getfield 83, 3) := by decide +kernel
theorem dX11_isLawful_9 : decode cX11_isLawful 9 = .ok (.if_icmp .ge 40, 3) := by decide +kernel
theorem dX11_isLawful_12 : decode cX11_isLawful 12 = .ok (.aload_n 0, 1) := by decide +kernel
theorem dX11_isLawful_13 : decode cX11_isLawful 13 = .ok (.getfield 25, 3) := by decide +kernel
theorem dX11_isLawful_16 : decode cX11_isLawful 16 = .ok (.aload_n 0, 1) := by decide +kernel
theorem dX11_isLawful_17 : decode cX11_isLawful 17 = .ok (.getfield 56, 3) := by decide +kernel
theorem dX11_isLawful_20 : decode cX11_isLawful 20 = .ok (.iload_n 2, 1) := by decide +kernel
theorem dX11_isLawful_21 : decode cX11_isLawful 21 = .ok (.iaload, 1) := by decide +kernel
theorem dX11_isLawful_22 : decode cX11_isLawful 22 = .ok (.iaload, 1) := by decide +kernel
theorem dX11_isLawful_23 : decode cX11_isLawful 23 = .ok (.iload_n 1, 1) := by decide +kernel
theorem dX11_isLawful_24 : decode cX11_isLawful 24 = .ok (.iconst (-1), 1) := by decide +kernel
theorem dX11_isLawful_25 : decode cX11_isLawful 25 = .ok (.ixor, 1) := by decide +kernel
theorem dX11_isLawful_26 : decode cX11_isLawful 26 = .ok (.iand, 1) := by decide +kernel
theorem dX11_isLawful_27 : decode cX11_isLawful 27 = .ok (.ifCond .eq 5, 3) := by decide +kernel
theorem dX11_isLawful_30 : decode cX11_isLawful 30 = .ok (.iconst 0, 1) := by decide +kernel
theorem dX11_isLawful_31 : decode cX11_isLawful 31 = .ok (.ireturn, 1) := by decide +kernel
theorem dX11_isLawful_32 : decode cX11_isLawful 32 = .ok (.iload_n 1, 1) := by decide +kernel
theorem dX11_isLawful_33 : decode cX11_isLawful 33 = .ok (.iconst 1, 1) := by decide +kernel
theorem dX11_isLawful_34 : decode cX11_isLawful 34 = .ok (.aload_n 0, 1) := by decide +kernel
theorem dX11_isLawful_35 : decode cX11_isLawful 35 = .ok (.getfield 56, 3) := by decide +kernel
theorem dX11_isLawful_38 : decode cX11_isLawful 38 = .ok (.iload_n 2, 1) := by decide +kernel
theorem dX11_isLawful_39 : decode cX11_isLawful 39 = .ok (.iaload, 1) := by decide +kernel
theorem dX11_isLawful_40 : decode cX11_isLawful 40 = .ok (.ishl, 1) := by decide +kernel
theorem dX11_isLawful_41 : decode cX11_isLawful 41 = .ok (.ior, 1) := by decide +kernel
theorem dX11_isLawful_42 : decode cX11_isLawful 42 = .ok (.istore_n 1, 1) := by decide +kernel
theorem dX11_isLawful_43 : decode cX11_isLawful 43 = .ok (.iinc 2 1, 3) := by decide +kernel
theorem dX11_isLawful_46 : decode cX11_isLawful 46 = .ok (.goto (-42), 3) := by decide +kernel
theorem dX11_isLawful_49 : decode cX11_isLawful 49 = .ok (.iconst 1, 1) := by decide +kernel
theorem dX11_isLawful_50 : decode cX11_isLawful 50 = .ok (.ireturn, 1) := by decide +kernel
theorem dX11_makes_0 : decode cX11_makes 0 = .ok (.iconst 0, 1) := by decide +kernel
theorem dX11_makes_1 : decode cX11_makes 1 = .ok (.istore_n 2, 1) := by decide +kernel
theorem dX11_makes_2 : decode cX11_makes 2 = .ok (.iconst 0, 1) := by decide +kernel
theorem dX11_makes_3 : decode cX11_makes 3 = .ok (.istore_n 3, 1) := by decide +kernel
theorem dX11_makes_4 : decode cX11_makes 4 = .ok (.iconst 0, 1) := by decide +kernel
theorem dX11_makes_5 : decode cX11_makes 5 = .ok (.istore 4, 2) := by decide +kernel
theorem dX11_makes_7 : decode cX11_makes 7 = .ok (.iload 4, 2) := by decide +kernel
theorem dX11_makes_9 : decode cX11_makes 9 = .ok (.aload_n 0, 1) := by decide +kernel
theorem dX11_makes_10 : decode cX11_makes 10 = .ok (.getfield 83, 3) := by decide +kernel
theorem dX11_makes_13 : decode cX11_makes 13 = .ok (.if_icmp .ge 209, 3) := by decide +kernel
theorem dX11_makes_16 : decode cX11_makes 16 = .ok (.aload_n 0, 1) := by decide +kernel
theorem dX11_makes_17 : decode cX11_makes 17 = .ok (.getfield 56, 3) := by decide +kernel
theorem dX11_makes_20 : decode cX11_makes 20 = .ok (.iload 4, 2) := by decide +kernel
theorem dX11_makes_22 : decode cX11_makes 22 = .ok (.iaload, 1) := by decide +kernel
theorem dX11_makes_23 : decode cX11_makes 23 = .ok (.istore 5, 2) := by decide +kernel
theorem dX11_makes_25 : decode cX11_makes 25 = .ok (.iload 4, 2) := by decide +kernel
theorem dX11_makes_27 : decode cX11_makes 27 = .ok (.ifCond .ne 7, 3) := by decide +kernel
theorem dX11_makes_30 : decode cX11_makes 30 = .ok (.iconst 0, 1) := by decide +kernel
theorem dX11_makes_31 : decode cX11_makes 31 = .ok (.goto 34, 3) := by decide +kernel
theorem dX11_makes_34 : decode cX11_makes 34 = .ok (.iload_n 2, 1) := by decide +kernel
theorem dX11_makes_35 : decode cX11_makes 35 = .ok (.aload_n 0, 1) := by decide +kernel
theorem dX11_makes_36 : decode cX11_makes 36 = .ok (.getfield 28, 3) := by decide +kernel
theorem dX11_makes_39 : decode cX11_makes 39 = .ok (.iconst 3, 1) := by decide +kernel
theorem dX11_makes_40 : decode cX11_makes 40 = .ok (.aload_n 0, 1) := by decide +kernel
theorem dX11_makes_41 : decode cX11_makes 41 = .ok (.getfield 22, 3) := by decide +kernel
theorem dX11_makes_44 : decode cX11_makes 44 = .ok (.aload_n 0, 1) := by decide +kernel
theorem dX11_makes_45 : decode cX11_makes 45 = .ok (.getfield 56, 3) := by decide +kernel
theorem dX11_makes_48 : decode cX11_makes 48 = .ok (.iload 4, 2) := by decide +kernel
theorem dX11_makes_50 : decode cX11_makes 50 = .ok (.iconst 1, 1) := by decide +kernel
theorem dX11_makes_51 : decode cX11_makes 51 = .ok (.isub, 1) := by decide +kernel
theorem dX11_makes_52 : decode cX11_makes 52 = .ok (.iaload, 1) := by decide +kernel
theorem dX11_makes_53 : decode cX11_makes 53 = .ok (.iaload, 1) := by decide +kernel
theorem dX11_makes_54 : decode cX11_makes 54 = .ok (.imul, 1) := by decide +kernel
theorem dX11_makes_55 : decode cX11_makes 55 = .ok (.aload_n 0, 1) := by decide +kernel
theorem dX11_makes_56 : decode cX11_makes 56 = .ok (.getfield 22, 3) := by decide +kernel
theorem dX11_makes_59 : decode cX11_makes 59 = .ok (.iload 5, 2) := by decide +kernel
theorem dX11_makes_61 : decode cX11_makes 61 = .ok (.iaload, 1) := by decide +kernel
theorem dX11_makes_62 : decode cX11_makes 62 = .ok (.iadd, 1) := by decide +kernel
theorem dX11_makes_63 : decode cX11_makes 63 = .ok (.iaload, 1) := by decide +kernel
theorem dX11_makes_64 : decode cX11_makes 64 = .ok (.iadd, 1) := by decide +kernel
theorem dX11_makes_65 : decode cX11_makes 65 = .ok (.istore 6, 2) := by decide +kernel
theorem dX11_makes_67 : decode cX11_makes 67 = .ok (.iload 6, 2) := by decide +kernel
theorem dX11_makes_69 : decode cX11_makes 69 = .ok (.aload_n 0, 1) := by decide +kernel
theorem dX11_makes_70 : decode cX11_makes 70 = .ok (.getfield 13, 3) := by decide +kernel
theorem dX11_makes_73 : decode cX11_makes 73 = .ok (.iload 5, 2) := by decide +kernel
theorem dX11_makes_75 : decode cX11_makes 75 = .ok (.iaload, 1) := by decide +kernel
theorem dX11_makes_76 : decode cX11_makes 76 = .ok (.if_icmp .ge 13, 3) := by decide +kernel
theorem dX11_makes_79 : decode cX11_makes 79 = .ok (.aload_n 0, 1) := by decide +kernel
theorem dX11_makes_80 : decode cX11_makes 80 = .ok (.getfield 13, 3) := by decide +kernel
theorem dX11_makes_83 : decode cX11_makes 83 = .ok (.iload 5, 2) := by decide +kernel
theorem dX11_makes_85 : decode cX11_makes 85 = .ok (.iaload, 1) := by decide +kernel
theorem dX11_makes_86 : decode cX11_makes 86 = .ok (.goto 5, 3) := by decide +kernel
theorem dX11_makes_89 : decode cX11_makes 89 = .ok (.iload 6, 2) := by decide +kernel
theorem dX11_makes_91 : decode cX11_makes 91 = .ok (.istore 6, 2) := by decide +kernel
theorem dX11_makes_93 : decode cX11_makes 93 = .ok (.iload 6, 2) := by decide +kernel
theorem dX11_makes_95 : decode cX11_makes 95 = .ok (.aload_n 0, 1) := by decide +kernel
theorem dX11_makes_96 : decode cX11_makes 96 = .ok (.getfield 7, 3) := by decide +kernel
theorem dX11_makes_99 : decode cX11_makes 99 = .ok (.iload 5, 2) := by decide +kernel
theorem dX11_makes_101 : decode cX11_makes 101 = .ok (.iaload, 1) := by decide +kernel
theorem dX11_makes_102 : decode cX11_makes 102 = .ok (.iadd, 1) := by decide +kernel
theorem dX11_makes_103 : decode cX11_makes 103 = .ok (.istore_n 2, 1) := by decide +kernel
theorem dX11_makes_104 : decode cX11_makes 104 = .ok (.iload_n 2, 1) := by decide +kernel
theorem dX11_makes_105 : decode cX11_makes 105 = .ok (.aload_n 0, 1) := by decide +kernel
theorem dX11_makes_106 : decode cX11_makes 106 = .ok (.getfield 16, 3) := by decide +kernel
theorem dX11_makes_109 : decode cX11_makes 109 = .ok (.iload 5, 2) := by decide +kernel
theorem dX11_makes_111 : decode cX11_makes 111 = .ok (.iaload, 1) := by decide +kernel
theorem dX11_makes_112 : decode cX11_makes 112 = .ok (.if_icmp .le 15, 3) := by decide +kernel
theorem dX11_makes_115 : decode cX11_makes 115 = .ok (.iload_n 2, 1) := by decide +kernel
theorem dX11_makes_116 : decode cX11_makes 116 = .ok (.aload_n 0, 1) := by decide +kernel
theorem dX11_makes_117 : decode cX11_makes 117 = .ok (.getfield 16, 3) := by decide +kernel
theorem dX11_makes_120 : decode cX11_makes 120 = .ok (.iload 5, 2) := by decide +kernel
theorem dX11_makes_122 : decode cX11_makes 122 = .ok (.iaload, 1) := by decide +kernel
theorem dX11_makes_123 : decode cX11_makes 123 = .ok (.isub, 1) := by decide +kernel
theorem dX11_makes_124 : decode cX11_makes 124 = .ok (.goto 4, 3) := by decide +kernel
theorem dX11_makes_127 : decode cX11_makes 127 = .ok (.iconst 0, 1) := by decide +kernel
theorem dX11_makes_128 : decode cX11_makes 128 = .ok (.istore 7, 2) := by decide +kernel
theorem dX11_makes_130 : decode cX11_makes 130 = .ok (.iload_n 1, 1) := by decide +kernel
theorem dX11_makes_131 : decode cX11_makes 131 = .ok (.iconst 1, 1) := by decide +kernel
theorem dX11_makes_132 : decode cX11_makes 132 = .ok (.if_icmp .ne 18, 3) := by decide +kernel
theorem dX11_makes_135 : decode cX11_makes 135 = .ok (.iload_n 3, 1) := by decide +kernel
theorem dX11_makes_136 : decode cX11_makes 136 = .ok (.aload_n 0, 1) := by decide +kernel
theorem dX11_makes_137 : decode cX11_makes 137 = .ok (.getfield 19, 3) := by decide +kernel
theorem dX11_makes_140 : decode cX11_makes 140 = .ok (.iload 5, 2) := by decide +kernel
theorem dX11_makes_142 : decode cX11_makes 142 = .ok (.iaload, 1) := by decide +kernel
theorem dX11_makes_143 : decode cX11_makes 143 = .ok (.iload_n 2, 1) := by decide +kernel
theorem dX11_makes_144 : decode cX11_makes 144 = .ok (.imul, 1) := by decide +kernel
theorem dX11_makes_145 : decode cX11_makes 145 = .ok (.iadd, 1) := by decide +kernel
theorem dX11_makes_146 : decode cX11_makes 146 = .ok (.istore_n 3, 1) := by decide +kernel
theorem dX11_makes_147 : decode cX11_makes 147 = .ok (.goto 69, 3) := by decide +kernel
theorem dX11_makes_150 : decode cX11_makes 150 = .ok (.iload_n 1, 1) := by decide +kernel
theorem dX11_makes_151 : decode cX11_makes 151 = .ok (.iconst 2, 1) := by decide +kernel
theorem dX11_makes_152 : decode cX11_makes 152 = .ok (.if_icmp .ne 19, 3) := by decide +kernel
theorem dX11_makes_155 : decode cX11_makes 155 = .ok (.iload_n 3, 1) := by decide +kernel
theorem dX11_makes_156 : decode cX11_makes 156 = .ok (.aload_n 0, 1) := by decide +kernel
theorem dX11_makes_157 : decode cX11_makes 157 = .ok (.getfield 19, 3) := by decide +kernel
theorem dX11_makes_160 : decode cX11_makes 160 = .ok (.iload 5, 2) := by decide +kernel
theorem dX11_makes_162 : decode cX11_makes 162 = .ok (.iaload, 1) := by decide +kernel
theorem dX11_makes_163 : decode cX11_makes 163 = .ok (.iload 7, 2) := by decide +kernel
theorem dX11_makes_165 : decode cX11_makes 165 = .ok (.imul, 1) := by decide +kernel
theorem dX11_makes_166 : decode cX11_makes 166 = .ok (.iadd, 1) := by decide +kernel
theorem dX11_makes_167 : decode cX11_makes 167 = .ok (.istore_n 3, 1) := by decide +kernel
theorem dX11_makes_168 : decode cX11_makes 168 = .ok (.goto 48, 3) := by decide +kernel
theorem dX11_makes_171 : decode cX11_makes 171 = .ok (.iload_n 1, 1) := by decide +kernel
theorem dX11_makes_172 : decode cX11_makes 172 = .ok (.iconst 3, 1) := by decide +kernel
theorem dX11_makes_173 : decode cX11_makes 173 = .ok (.if_icmp .ne 19, 3) := by decide +kernel
theorem dX11_makes_176 : decode cX11_makes 176 = .ok (.iload 7, 2) := by decide +kernel
theorem dX11_makes_178 : decode cX11_makes 178 = .ok (.iload_n 3, 1) := by decide +kernel
theorem dX11_makes_179 : decode cX11_makes 179 = .ok (.if_icmp .le 8, 3) := by decide +kernel
theorem dX11_makes_182 : decode cX11_makes 182 = .ok (.iload 7, 2) := by decide +kernel
theorem dX11_makes_184 : decode cX11_makes 184 = .ok (.goto 4, 3) := by decide +kernel
theorem dX11_makes_187 : decode cX11_makes 187 = .ok (.iload_n 3, 1) := by decide +kernel
theorem dX11_makes_188 : decode cX11_makes 188 = .ok (.istore_n 3, 1) := by decide +kernel
theorem dX11_makes_189 : decode cX11_makes 189 = .ok (.goto 27, 3) := by decide +kernel
theorem dX11_makes_192 : decode cX11_makes 192 = .ok (.iload_n 1, 1) := by decide +kernel
theorem dX11_makes_193 : decode cX11_makes 193 = .ok (.iconst 4, 1) := by decide +kernel
theorem dX11_makes_194 : decode cX11_makes 194 = .ok (.if_icmp .ne 22, 3) := by decide +kernel
theorem dX11_makes_197 : decode cX11_makes 197 = .ok (.iload_n 3, 1) := by decide +kernel
theorem dX11_makes_198 : decode cX11_makes 198 = .ok (.iload 7, 2) := by decide +kernel
theorem dX11_makes_200 : decode cX11_makes 200 = .ok (.ifCond .le 13, 3) := by decide +kernel
theorem dX11_makes_203 : decode cX11_makes 203 = .ok (.aload_n 0, 1) := by decide +kernel
theorem dX11_makes_204 : decode cX11_makes 204 = .ok (.getfield 19, 3) := by decide +kernel
theorem dX11_makes_207 : decode cX11_makes 207 = .ok (.iload 5, 2) := by decide +kernel
theorem dX11_makes_209 : decode cX11_makes 209 = .ok (.iaload, 1) := by decide +kernel
theorem dX11_makes_210 : decode cX11_makes 210 = .ok (.goto 4, 3) := by decide +kernel
theorem dX11_makes_213 : decode cX11_makes 213 = .ok (.iconst 0, 1) := by decide +kernel
theorem dX11_makes_214 : decode cX11_makes 214 = .ok (.iadd, 1) := by decide +kernel
theorem dX11_makes_215 : decode cX11_makes 215 = .ok (.istore_n 3, 1) := by decide +kernel
theorem dX11_makes_216 : decode cX11_makes 216 = .ok (.iinc 4 1, 3) := by decide +kernel
theorem dX11_makes_219 : decode cX11_makes 219 = .ok (.goto (-212), 3) := by decide +kernel
theorem dX11_makes_222 : decode cX11_makes 222 = .ok (.iload_n 1, 1) := by decide +kernel
theorem dX11_makes_223 : decode cX11_makes 223 = .ok (.ifCond .ne 7, 3) := by decide +kernel
theorem dX11_makes_226 : decode cX11_makes 226 = .ok (.iload_n 2, 1) := by decide +kernel
theorem dX11_makes_227 : decode cX11_makes 227 = .ok (.goto 4, 3) := by decide +kernel
theorem dX11_makes_230 : decode cX11_makes 230 = .ok (.iload_n 3, 1) := by decide +kernel
theorem dX11_makes_231 : decode cX11_makes 231 = .ok (.ireturn, 1) := by decide +kernel
theorem dX11_firstOrder_0 : decode cX11_firstOrder 0 = .ok (.iconst 0, 1) := by decide +kernel
theorem dX11_firstOrder_1 : decode cX11_firstOrder 1 = .ok (.istore_n 1, 1) := by decide +kernel
theorem dX11_firstOrder_2 : decode cX11_firstOrder 2 = .ok (.iload_n 1, 1) := by decide +kernel
theorem dX11_firstOrder_3 : decode cX11_firstOrder 3 = .ok (.aload_n 0, 1) := by decide +kernel
theorem dX11_firstOrder_4 : decode cX11_firstOrder 4 = .ok (.getfield 83, 3) := by decide +kernel
theorem dX11_firstOrder_7 : decode cX11_firstOrder 7 = .ok (.if_icmp .ge 16, 3) := by decide +kernel
theorem dX11_firstOrder_10 : decode cX11_firstOrder 10 = .ok (.aload_n 0, 1) := by decide +kernel
theorem dX11_firstOrder_11 : decode cX11_firstOrder 11 = .ok (.getfield 56, 3) := by decide +kernel
theorem dX11_firstOrder_14 : decode cX11_firstOrder 14 = .ok (.iload_n 1, 1) := by decide +kernel
theorem dX11_firstOrder_15 : decode cX11_firstOrder 15 = .ok (.iload_n 1, 1) := by decide +kernel
theorem dX11_firstOrder_16 : decode cX11_firstOrder 16 = .ok (.iastore, 1) := by decide +kernel
theorem dX11_firstOrder_17 : decode cX11_firstOrder 17 = .ok (.iinc 1 1, 3) := by decide +kernel
theorem dX11_firstOrder_20 : decode cX11_firstOrder 20 = .ok (.goto (-18), 3) := by decide +kernel
theorem dX11_firstOrder_23 : decode cX11_firstOrder 23 = .ok (.return_, 1) := by decide +kernel
theorem dX11_nextOrder_0 : decode cX11_nextOrder 0 = .ok (.aload_n 0, 1) := by decide +kernel
theorem dX11_nextOrder_1 : decode cX11_nextOrder 1 = .ok (.getfield 83, 3) := by decide +kernel
theorem dX11_nextOrder_4 : decode cX11_nextOrder 4 = .ok (.iconst 2, 1) := by decide +kernel
theorem dX11_nextOrder_5 : decode cX11_nextOrder 5 = .ok (.isub, 1) := by decide +kernel
theorem dX11_nextOrder_6 : decode cX11_nextOrder 6 = .ok (.istore_n 1, 1) := by decide +kernel
theorem dX11_nextOrder_7 : decode cX11_nextOrder 7 = .ok (.iload_n 1, 1) := by decide +kernel
theorem dX11_nextOrder_8 : decode cX11_nextOrder 8 = .ok (.ifCond .lt 26, 3) := by decide +kernel
theorem dX11_nextOrder_11 : decode cX11_nextOrder 11 = .ok (.aload_n 0, 1) := by decide +kernel
theorem dX11_nextOrder_12 : decode cX11_nextOrder 12 = .ok (.getfield 56, 3) := by decide +kernel
theorem dX11_nextOrder_15 : decode cX11_nextOrder 15 = .ok (.iload_n 1, 1) := by decide +kernel
theorem dX11_nextOrder_16 : decode cX11_nextOrder 16 = .ok (.iaload, 1) := by decide +kernel
theorem dX11_nextOrder_17 : decode cX11_nextOrder 17 = .ok (.aload_n 0, 1) := by decide +kernel
theorem dX11_nextOrder_18 : decode cX11_nextOrder 18 = .ok (.getfield 56, 3) := by decide +kernel
theorem dX11_nextOrder_21 : decode cX11_nextOrder 21 = .ok (.iload_n 1, 1) := by decide +kernel
theorem dX11_nextOrder_22 : decode cX11_nextOrder 22 = .ok (.iconst 1, 1) := by decide +kernel
theorem dX11_nextOrder_23 : decode cX11_nextOrder 23 = .ok (.iadd, 1) := by decide +kernel
theorem dX11_nextOrder_24 : decode cX11_nextOrder 24 = .ok (.iaload, 1) := by decide +kernel
theorem dX11_nextOrder_25 : decode cX11_nextOrder 25 = .ok (.if_icmp .le 9, 3) := by decide +kernel
theorem dX11_nextOrder_28 : decode cX11_nextOrder 28 = .ok (.iinc 1 (-1), 3) := by decide +kernel
theorem dX11_nextOrder_31 : decode cX11_nextOrder 31 = .ok (.goto (-24), 3) := by decide +kernel
theorem dX11_nextOrder_34 : decode cX11_nextOrder 34 = .ok (.iload_n 1, 1) := by decide +kernel
theorem dX11_nextOrder_35 : decode cX11_nextOrder 35 = .ok (.ifCond .ge 5, 3) := by decide +kernel
theorem dX11_nextOrder_38 : decode cX11_nextOrder 38 = .ok (.iconst 0, 1) := by decide +kernel
theorem dX11_nextOrder_39 : decode cX11_nextOrder 39 = .ok (.ireturn, 1) := by decide +kernel
theorem dX11_nextOrder_40 : decode cX11_nextOrder 40 = .ok (.aload_n 0, 1) := by decide +kernel
theorem dX11_nextOrder_41 : decode cX11_nextOrder 41 = .ok (.getfield 83, 3) := by decide +kernel
theorem dX11_nextOrder_44 : decode cX11_nextOrder 44 = .ok (.iconst 1, 1) := by decide +kernel
theorem dX11_nextOrder_45 : decode cX11_nextOrder 45 = .ok (.isub, 1) := by decide +kernel
theorem dX11_nextOrder_46 : decode cX11_nextOrder 46 = .ok (.istore_n 2, 1) := by decide +kernel
theorem dX11_nextOrder_47 : decode cX11_nextOrder 47 = .ok (.aload_n 0, 1) := by decide +kernel
theorem dX11_nextOrder_48 : decode cX11_nextOrder 48 = .ok (.getfield 56, 3) := by decide +kernel
theorem dX11_nextOrder_51 : decode cX11_nextOrder 51 = .ok (.iload_n 2, 1) := by decide +kernel
theorem dX11_nextOrder_52 : decode cX11_nextOrder 52 = .ok (.iaload, 1) := by decide +kernel
theorem dX11_nextOrder_53 : decode cX11_nextOrder 53 = .ok (.aload_n 0, 1) := by decide +kernel
theorem dX11_nextOrder_54 : decode cX11_nextOrder 54 = .ok (.getfield 56, 3) := by decide +kernel
theorem dX11_nextOrder_57 : decode cX11_nextOrder 57 = .ok (.iload_n 1, 1) := by decide +kernel
theorem dX11_nextOrder_58 : decode cX11_nextOrder 58 = .ok (.iaload, 1) := by decide +kernel
theorem dX11_nextOrder_59 : decode cX11_nextOrder 59 = .ok (.if_icmp .ge 9, 3) := by decide +kernel
theorem dX11_nextOrder_62 : decode cX11_nextOrder 62 = .ok (.iinc 2 (-1), 3) := by decide +kernel
theorem dX11_nextOrder_65 : decode cX11_nextOrder 65 = .ok (.goto (-18), 3) := by decide +kernel
theorem dX11_nextOrder_68 : decode cX11_nextOrder 68 = .ok (.aload_n 0, 1) := by decide +kernel
theorem dX11_nextOrder_69 : decode cX11_nextOrder 69 = .ok (.iload_n 1, 1) := by decide +kernel
theorem dX11_nextOrder_70 : decode cX11_nextOrder 70 = .ok (.iload_n 2, 1) := by decide +kernel
theorem dX11_nextOrder_71 : decode cX11_nextOrder 71 = .ok (.invokevirtual 113, 3) := by decide +kernel
theorem dX11_nextOrder_74 : decode cX11_nextOrder 74 = .ok (.iload_n 1, 1) := by decide +kernel
theorem dX11_nextOrder_75 : decode cX11_nextOrder 75 = .ok (.iconst 1, 1) := by decide +kernel
theorem dX11_nextOrder_76 : decode cX11_nextOrder 76 = .ok (.iadd, 1) := by decide +kernel
theorem dX11_nextOrder_77 : decode cX11_nextOrder 77 = .ok (.istore_n 3, 1) := by decide +kernel
theorem dX11_nextOrder_78 : decode cX11_nextOrder 78 = .ok (.aload_n 0, 1) := by decide +kernel
theorem dX11_nextOrder_79 : decode cX11_nextOrder 79 = .ok (.getfield 83, 3) := by decide +kernel
theorem dX11_nextOrder_82 : decode cX11_nextOrder 82 = .ok (.iconst 1, 1) := by decide +kernel
theorem dX11_nextOrder_83 : decode cX11_nextOrder 83 = .ok (.isub, 1) := by decide +kernel
theorem dX11_nextOrder_84 : decode cX11_nextOrder 84 = .ok (.istore 4, 2) := by decide +kernel
theorem dX11_nextOrder_86 : decode cX11_nextOrder 86 = .ok (.iload_n 3, 1) := by decide +kernel
theorem dX11_nextOrder_87 : decode cX11_nextOrder 87 = .ok (.iload 4, 2) := by decide +kernel
theorem dX11_nextOrder_89 : decode cX11_nextOrder 89 = .ok (.if_icmp .ge 19, 3) := by decide +kernel
theorem dX11_nextOrder_92 : decode cX11_nextOrder 92 = .ok (.aload_n 0, 1) := by decide +kernel
theorem dX11_nextOrder_93 : decode cX11_nextOrder 93 = .ok (.iload_n 3, 1) := by decide +kernel
theorem dX11_nextOrder_94 : decode cX11_nextOrder 94 = .ok (.iload 4, 2) := by decide +kernel
theorem dX11_nextOrder_96 : decode cX11_nextOrder 96 = .ok (.invokevirtual 113, 3) := by decide +kernel
theorem dX11_nextOrder_99 : decode cX11_nextOrder 99 = .ok (.iinc 3 1, 3) := by decide +kernel
theorem dX11_nextOrder_102 : decode cX11_nextOrder 102 = .ok (.iinc 4 (-1), 3) := by decide +kernel
theorem dX11_nextOrder_105 : decode cX11_nextOrder 105 = .ok (.goto (-19), 3) := by decide +kernel
theorem dX11_nextOrder_108 : decode cX11_nextOrder 108 = .ok (.iconst 1, 1) := by decide +kernel
theorem dX11_nextOrder_109 : decode cX11_nextOrder 109 = .ok (.ireturn, 1) := by decide +kernel
theorem dX11_swap_0 : decode cX11_swap 0 = .ok (.aload_n 0, 1) := by decide +kernel
theorem dX11_swap_1 : decode cX11_swap 1 = .ok (.getfield 56, 3) := by decide +kernel
theorem dX11_swap_4 : decode cX11_swap 4 = .ok (.iload_n 1, 1) := by decide +kernel
theorem dX11_swap_5 : decode cX11_swap 5 = .ok (.iaload, 1) := by decide +kernel
theorem dX11_swap_6 : decode cX11_swap 6 = .ok (.istore_n 3, 1) := by decide +kernel
theorem dX11_swap_7 : decode cX11_swap 7 = .ok (.aload_n 0, 1) := by decide +kernel
theorem dX11_swap_8 : decode cX11_swap 8 = .ok (.getfield 56, 3) := by decide +kernel
theorem dX11_swap_11 : decode cX11_swap 11 = .ok (.iload_n 1, 1) := by decide +kernel
theorem dX11_swap_12 : decode cX11_swap 12 = .ok (.aload_n 0, 1) := by decide +kernel
theorem dX11_swap_13 : decode cX11_swap 13 = .ok (.getfield 56, 3) := by decide +kernel
theorem dX11_swap_16 : decode cX11_swap 16 = .ok (.iload_n 2, 1) := by decide +kernel
theorem dX11_swap_17 : decode cX11_swap 17 = .ok (.iaload, 1) := by decide +kernel
theorem dX11_swap_18 : decode cX11_swap 18 = .ok (.iastore, 1) := by decide +kernel
theorem dX11_swap_19 : decode cX11_swap 19 = .ok (.aload_n 0, 1) := by decide +kernel
theorem dX11_swap_20 : decode cX11_swap 20 = .ok (.getfield 56, 3) := by decide +kernel
theorem dX11_swap_23 : decode cX11_swap 23 = .ok (.iload_n 2, 1) := by decide +kernel
theorem dX11_swap_24 : decode cX11_swap 24 = .ok (.iload_n 3, 1) := by decide +kernel
theorem dX11_swap_25 : decode cX11_swap 25 = .ok (.iastore, 1) := by decide +kernel
theorem dX11_swap_26 : decode cX11_swap 26 = .ok (.return_, 1) := by decide +kernel
theorem dX11_goOver_0 : decode cX11_goOver 0 = .ok (.aload_n 0, 1) := by decide +kernel
theorem dX11_goOver_1 : decode cX11_goOver 1 = .ok (.invokevirtual 117, 3) := by decide +kernel
theorem dX11_goOver_4 : decode cX11_goOver 4 = .ok (.iconst (-1), 1) := by decide +kernel
theorem dX11_goOver_5 : decode cX11_goOver 5 = .ok (.istore_n 2, 1) := by decide +kernel
theorem dX11_goOver_6 : decode cX11_goOver 6 = .ok (.iconst 1, 1) := by decide +kernel
theorem dX11_goOver_7 : decode cX11_goOver 7 = .ok (.istore_n 3, 1) := by decide +kernel
theorem dX11_goOver_8 : decode cX11_goOver 8 = .ok (.iload_n 3, 1) := by decide +kernel
theorem dX11_goOver_9 : decode cX11_goOver 9 = .ok (.ifCond .eq 92, 3) := by decide +kernel
theorem dX11_goOver_12 : decode cX11_goOver 12 = .ok (.iload_n 1, 1) := by decide +kernel
theorem dX11_goOver_13 : decode cX11_goOver 13 = .ok (.iconst 5, 1) := by decide +kernel
theorem dX11_goOver_14 : decode cX11_goOver 14 = .ok (.if_icmp .eq 10, 3) := by decide +kernel
theorem dX11_goOver_17 : decode cX11_goOver 17 = .ok (.aload_n 0, 1) := by decide +kernel
theorem dX11_goOver_18 : decode cX11_goOver 18 = .ok (.invokevirtual 120, 3) := by decide +kernel
theorem dX11_goOver_21 : decode cX11_goOver 21 = .ok (.ifCond .eq 72, 3) := by decide +kernel
theorem dX11_goOver_24 : decode cX11_goOver 24 = .ok (.iload_n 1, 1) := by decide +kernel
theorem dX11_goOver_25 : decode cX11_goOver 25 = .ok (.iconst 5, 1) := by decide +kernel
theorem dX11_goOver_26 : decode cX11_goOver 26 = .ok (.if_icmp .ne 15, 3) := by decide +kernel
theorem dX11_goOver_29 : decode cX11_goOver 29 = .ok (.aload_n 0, 1) := by decide +kernel
theorem dX11_goOver_30 : decode cX11_goOver 30 = .ok (.aload_n 0, 1) := by decide +kernel
theorem dX11_goOver_31 : decode cX11_goOver 31 = .ok (.getfield 34, 3) := by decide +kernel
theorem dX11_goOver_34 : decode cX11_goOver 34 = .ok (.iconst 0, 1) := by decide +kernel
theorem dX11_goOver_35 : decode cX11_goOver 35 = .ok (.invokevirtual 124, 3) := by decide +kernel
theorem dX11_goOver_38 : decode cX11_goOver 38 = .ok (.goto 8, 3) := by decide +kernel
theorem dX11_goOver_41 : decode cX11_goOver 41 = .ok (.aload_n 0, 1) := by decide +kernel
theorem dX11_goOver_42 : decode cX11_goOver 42 = .ok (.iload_n 1, 1) := by decide +kernel
theorem dX11_goOver_43 : decode cX11_goOver 43 = .ok (.invokevirtual 128, 3) := by decide +kernel
theorem dX11_goOver_46 : decode cX11_goOver 46 = .ok (.istore 4, 2) := by decide +kernel
theorem dX11_goOver_48 : decode cX11_goOver 48 = .ok (.iload_n 2, 1) := by decide +kernel
theorem dX11_goOver_49 : decode cX11_goOver 49 = .ok (.ifCond .lt 9, 3) := by decide +kernel
theorem dX11_goOver_52 : decode cX11_goOver 52 = .ok (.iload 4, 2) := by decide +kernel
theorem dX11_goOver_54 : decode cX11_goOver 54 = .ok (.iload_n 2, 1) := by decide +kernel
theorem dX11_goOver_55 : decode cX11_goOver 55 = .ok (.if_icmp .ge 38, 3) := by decide +kernel
theorem dX11_goOver_58 : decode cX11_goOver 58 = .ok (.iload 4, 2) := by decide +kernel
theorem dX11_goOver_60 : decode cX11_goOver 60 = .ok (.istore_n 2, 1) := by decide +kernel
theorem dX11_goOver_61 : decode cX11_goOver 61 = .ok (.iconst 0, 1) := by decide +kernel
theorem dX11_goOver_62 : decode cX11_goOver 62 = .ok (.istore 5, 2) := by decide +kernel
theorem dX11_goOver_64 : decode cX11_goOver 64 = .ok (.iload 5, 2) := by decide +kernel
theorem dX11_goOver_66 : decode cX11_goOver 66 = .ok (.aload_n 0, 1) := by decide +kernel
theorem dX11_goOver_67 : decode cX11_goOver 67 = .ok (.getfield 83, 3) := by decide +kernel
theorem dX11_goOver_70 : decode cX11_goOver 70 = .ok (.if_icmp .ge 23, 3) := by decide +kernel
theorem dX11_goOver_73 : decode cX11_goOver 73 = .ok (.aload_n 0, 1) := by decide +kernel
theorem dX11_goOver_74 : decode cX11_goOver 74 = .ok (.getfield 59, 3) := by decide +kernel
theorem dX11_goOver_77 : decode cX11_goOver 77 = .ok (.iload 5, 2) := by decide +kernel
theorem dX11_goOver_79 : decode cX11_goOver 79 = .ok (.aload_n 0, 1) := by decide +kernel
theorem dX11_goOver_80 : decode cX11_goOver 80 = .ok (.getfield 56, 3) := by decide +kernel
theorem dX11_goOver_83 : decode cX11_goOver 83 = .ok (.iload 5, 2) := by decide +kernel
theorem dX11_goOver_85 : decode cX11_goOver 85 = .ok (.iaload, 1) := by decide +kernel
theorem dX11_goOver_86 : decode cX11_goOver 86 = .ok (.iastore, 1) := by decide +kernel
theorem dX11_goOver_87 : decode cX11_goOver 87 = .ok (.iinc 5 1, 3) := by decide +kernel
theorem dX11_goOver_90 : decode cX11_goOver 90 = .ok (.goto (-26), 3) := by decide +kernel
theorem dX11_goOver_93 : decode cX11_goOver 93 = .ok (.aload_n 0, 1) := by decide +kernel
theorem dX11_goOver_94 : decode cX11_goOver 94 = .ok (.invokevirtual 131, 3) := by decide +kernel
theorem dX11_goOver_97 : decode cX11_goOver 97 = .ok (.istore_n 3, 1) := by decide +kernel
theorem dX11_goOver_98 : decode cX11_goOver 98 = .ok (.goto (-90), 3) := by decide +kernel
theorem dX11_goOver_101 : decode cX11_goOver 101 = .ok (.iload_n 2, 1) := by decide +kernel
theorem dX11_goOver_102 : decode cX11_goOver 102 = .ok (.ireturn, 1) := by decide +kernel
theorem dX11_isPlace_0 : decode cX11_isPlace 0 = .ok (.iload_n 1, 1) := by decide +kernel
theorem dX11_isPlace_1 : decode cX11_isPlace 1 = .ok (.i2l, 1) := by decide +kernel
theorem dX11_isPlace_2 : decode cX11_isPlace 2 = .ok (.ldc2_w 134, 3) := by decide +kernel
theorem dX11_isPlace_5 : decode cX11_isPlace 5 = .ok (.aload_n 0, 1) := by decide +kernel
theorem dX11_isPlace_6 : decode cX11_isPlace 6 = .ok (.getfield 83, 3) := by decide +kernel
theorem dX11_isPlace_9 : decode cX11_isPlace 9 = .ok (.iconst 1, 1) := by decide +kernel
theorem dX11_isPlace_10 : decode cX11_isPlace 10 = .ok (.isub, 1) := by decide +kernel
theorem dX11_isPlace_11 : decode cX11_isPlace 11 = .ok (.i2l, 1) := by decide +kernel
theorem dX11_isPlace_12 : decode cX11_isPlace 12 = .ok (.invokestatic 86, 3) := by decide +kernel
theorem dX11_isPlace_15 : decode cX11_isPlace 15 = .ok (.ireturn, 1) := by decide +kernel
theorem dX11_best_0 : decode cX11_best 0 = .ok (.iload_n 1, 1) := by decide +kernel
theorem dX11_best_1 : decode cX11_best 1 = .ok (.i2l, 1) := by decide +kernel
theorem dX11_best_2 : decode cX11_best 2 = .ok (.lconst 0, 1) := by decide +kernel
theorem dX11_best_3 : decode cX11_best 3 = .ok (.ldc2_w 96, 3) := by decide +kernel
theorem dX11_best_6 : decode cX11_best 6 = .ok (.invokestatic 86, 3) := by decide +kernel
theorem dX11_best_9 : decode cX11_best 9 = .ok (.ifCond .eq 11, 3) := by decide +kernel
theorem dX11_best_12 : decode cX11_best 12 = .ok (.aload_n 0, 1) := by decide +kernel
theorem dX11_best_13 : decode cX11_best 13 = .ok (.iload_n 2, 1) := by decide +kernel
theorem dX11_best_14 : decode cX11_best 14 = .ok (.invokevirtual 136, 3) := by decide +kernel
theorem dX11_best_17 : decode cX11_best 17 = .ok (.ifCond .ne 6, 3) := by decide +kernel
theorem dX11_best_20 : decode cX11_best 20 = .ok (.bipush (-10), 2) := by decide +kernel
theorem dX11_best_22 : decode cX11_best 22 = .ok (.ireturn, 1) := by decide +kernel
theorem dX11_best_23 : decode cX11_best 23 = .ok (.aload_n 0, 1) := by decide +kernel
theorem dX11_best_24 : decode cX11_best 24 = .ok (.iload_n 1, 1) := by decide +kernel
theorem dX11_best_25 : decode cX11_best 25 = .ok (.invokevirtual 139, 3) := by decide +kernel
theorem dX11_best_28 : decode cX11_best 28 = .ok (.istore_n 3, 1) := by decide +kernel
theorem dX11_best_29 : decode cX11_best 29 = .ok (.iload_n 2, 1) := by decide +kernel
theorem dX11_best_30 : decode cX11_best 30 = .ok (.iconst (-1), 1) := by decide +kernel
theorem dX11_best_31 : decode cX11_best 31 = .ok (.if_icmp .ne 7, 3) := by decide +kernel
theorem dX11_best_34 : decode cX11_best 34 = .ok (.iload_n 3, 1) := by decide +kernel
theorem dX11_best_35 : decode cX11_best 35 = .ok (.goto 9, 3) := by decide +kernel
theorem dX11_best_38 : decode cX11_best 38 = .ok (.aload_n 0, 1) := by decide +kernel
theorem dX11_best_39 : decode cX11_best 39 = .ok (.getfield 59, 3) := by decide +kernel
theorem dX11_best_42 : decode cX11_best 42 = .ok (.iload_n 2, 1) := by decide +kernel
theorem dX11_best_43 : decode cX11_best 43 = .ok (.iaload, 1) := by decide +kernel
theorem dX11_best_44 : decode cX11_best 44 = .ok (.ireturn, 1) := by decide +kernel
theorem dX11_lastFirst_0 : decode cX11_lastFirst 0 = .ok (.aload_n 0, 1) := by decide +kernel
theorem dX11_lastFirst_1 : decode cX11_lastFirst 1 = .ok (.iload_n 1, 1) := by decide +kernel
theorem dX11_lastFirst_2 : decode cX11_lastFirst 2 = .ok (.invokevirtual 136, 3) := by decide +kernel
theorem dX11_lastFirst_5 : decode cX11_lastFirst 5 = .ok (.ifCond .ne 6, 3) := by decide +kernel
theorem dX11_lastFirst_8 : decode cX11_lastFirst 8 = .ok (.bipush (-10), 2) := by decide +kernel
theorem dX11_lastFirst_10 : decode cX11_lastFirst 10 = .ok (.ireturn, 1) := by decide +kernel
theorem dX11_lastFirst_11 : decode cX11_lastFirst 11 = .ok (.iconst 1, 1) := by decide +kernel
theorem dX11_lastFirst_12 : decode cX11_lastFirst 12 = .ok (.aload_n 0, 1) := by decide +kernel
theorem dX11_lastFirst_13 : decode cX11_lastFirst 13 = .ok (.getfield 83, 3) := by decide +kernel
theorem dX11_lastFirst_16 : decode cX11_lastFirst 16 = .ok (.ishl, 1) := by decide +kernel
theorem dX11_lastFirst_17 : decode cX11_lastFirst 17 = .ok (.iconst 1, 1) := by decide +kernel
theorem dX11_lastFirst_18 : decode cX11_lastFirst 18 = .ok (.isub, 1) := by decide +kernel
theorem dX11_lastFirst_19 : decode cX11_lastFirst 19 = .ok (.istore_n 2, 1) := by decide +kernel
theorem dX11_lastFirst_20 : decode cX11_lastFirst 20 = .ok (.iconst 0, 1) := by decide +kernel
theorem dX11_lastFirst_21 : decode cX11_lastFirst 21 = .ok (.istore_n 3, 1) := by decide +kernel
theorem dX11_lastFirst_22 : decode cX11_lastFirst 22 = .ok (.iconst 0, 1) := by decide +kernel
theorem dX11_lastFirst_23 : decode cX11_lastFirst 23 = .ok (.istore 4, 2) := by decide +kernel
theorem dX11_lastFirst_25 : decode cX11_lastFirst 25 = .ok (.iload 4, 2) := by decide +kernel
theorem dX11_lastFirst_27 : decode cX11_lastFirst 27 = .ok (.aload_n 0, 1) := by decide +kernel
theorem dX11_lastFirst_28 : decode cX11_lastFirst 28 = .ok (.getfield 83, 3) := by decide +kernel
theorem dX11_lastFirst_31 : decode cX11_lastFirst 31 = .ok (.if_icmp .ge 19, 3) := by decide +kernel
theorem dX11_lastFirst_34 : decode cX11_lastFirst 34 = .ok (.iload_n 3, 1) := by decide +kernel
theorem dX11_lastFirst_35 : decode cX11_lastFirst 35 = .ok (.aload_n 0, 1) := by decide +kernel
theorem dX11_lastFirst_36 : decode cX11_lastFirst 36 = .ok (.getfield 7, 3) := by decide +kernel
theorem dX11_lastFirst_39 : decode cX11_lastFirst 39 = .ok (.iload 4, 2) := by decide +kernel
theorem dX11_lastFirst_41 : decode cX11_lastFirst 41 = .ok (.iaload, 1) := by decide +kernel
theorem dX11_lastFirst_42 : decode cX11_lastFirst 42 = .ok (.iadd, 1) := by decide +kernel
theorem dX11_lastFirst_43 : decode cX11_lastFirst 43 = .ok (.istore_n 3, 1) := by decide +kernel
theorem dX11_lastFirst_44 : decode cX11_lastFirst 44 = .ok (.iinc 4 1, 3) := by decide +kernel
theorem dX11_lastFirst_47 : decode cX11_lastFirst 47 = .ok (.goto (-22), 3) := by decide +kernel
theorem dX11_lastFirst_50 : decode cX11_lastFirst 50 = .ok (.iconst 0, 1) := by decide +kernel
theorem dX11_lastFirst_51 : decode cX11_lastFirst 51 = .ok (.istore 4, 2) := by decide +kernel
theorem dX11_lastFirst_53 : decode cX11_lastFirst 53 = .ok (.aload_n 0, 1) := by decide +kernel
theorem dX11_lastFirst_54 : decode cX11_lastFirst 54 = .ok (.getfield 83, 3) := by decide +kernel
theorem dX11_lastFirst_57 : decode cX11_lastFirst 57 = .ok (.iconst 1, 1) := by decide +kernel
theorem dX11_lastFirst_58 : decode cX11_lastFirst 58 = .ok (.isub, 1) := by decide +kernel
theorem dX11_lastFirst_59 : decode cX11_lastFirst 59 = .ok (.istore 5, 2) := by decide +kernel
theorem dX11_lastFirst_61 : decode cX11_lastFirst 61 = .ok (.iload 5, 2) := by decide +kernel
theorem dX11_lastFirst_63 : decode cX11_lastFirst 63 = .ok (.ifCond .lt 200, 3) := by decide +kernel
theorem dX11_lastFirst_66 : decode cX11_lastFirst 66 = .ok (.iconst (-1), 1) := by decide +kernel
theorem dX11_lastFirst_67 : decode cX11_lastFirst 67 = .ok (.istore 6, 2) := by decide +kernel
theorem dX11_lastFirst_69 : decode cX11_lastFirst 69 = .ok (.iconst 0, 1) := by decide +kernel
theorem dX11_lastFirst_70 : decode cX11_lastFirst 70 = .ok (.istore 7, 2) := by decide +kernel
theorem dX11_lastFirst_72 : decode cX11_lastFirst 72 = .ok (.iconst 0, 1) := by decide +kernel
theorem dX11_lastFirst_73 : decode cX11_lastFirst 73 = .ok (.istore 8, 2) := by decide +kernel
theorem dX11_lastFirst_75 : decode cX11_lastFirst 75 = .ok (.iload 8, 2) := by decide +kernel
theorem dX11_lastFirst_77 : decode cX11_lastFirst 77 = .ok (.aload_n 0, 1) := by decide +kernel
theorem dX11_lastFirst_78 : decode cX11_lastFirst 78 = .ok (.getfield 83, 3) := by decide +kernel
theorem dX11_lastFirst_81 : decode cX11_lastFirst 81 = .ok (.if_icmp .ge 132, 3) := by decide +kernel
theorem dX11_lastFirst_84 : decode cX11_lastFirst 84 = .ok (.iload_n 2, 1) := by decide +kernel
theorem dX11_lastFirst_85 : decode cX11_lastFirst 85 = .ok (.iload 8, 2) := by decide +kernel
theorem dX11_lastFirst_87 : decode cX11_lastFirst 87 = .ok (.ishr, 1) := by decide +kernel
theorem dX11_lastFirst_88 : decode cX11_lastFirst 88 = .ok (.iconst 1, 1) := by decide +kernel
theorem dX11_lastFirst_89 : decode cX11_lastFirst 89 = .ok (.iand, 1) := by decide +kernel
theorem dX11_lastFirst_90 : decode cX11_lastFirst 90 = .ok (.iconst 1, 1) := by decide +kernel
theorem dX11_lastFirst_91 : decode cX11_lastFirst 91 = .ok (.if_icmp .ne 7, 3) := by decide +kernel
theorem dX11_lastFirst_94 : decode cX11_lastFirst 94 = .ok (.iconst 1, 1) := by decide +kernel
theorem dX11_lastFirst_95 : decode cX11_lastFirst 95 = .ok (.goto 4, 3) := by decide +kernel
theorem dX11_lastFirst_98 : decode cX11_lastFirst 98 = .ok (.iconst 0, 1) := by decide +kernel
theorem dX11_lastFirst_99 : decode cX11_lastFirst 99 = .ok (.istore 9, 2) := by decide +kernel
theorem dX11_lastFirst_101 : decode cX11_lastFirst 101 = .ok (.iconst 0, 1) := by decide +kernel
theorem dX11_lastFirst_102 : decode cX11_lastFirst 102 = .ok (.istore 10, 2) := by decide +kernel
theorem dX11_lastFirst_104 : decode cX11_lastFirst 104 = .ok (.iload 10, 2) := by decide +kernel
theorem dX11_lastFirst_106 : decode cX11_lastFirst 106 = .ok (.aload_n 0, 1) := by decide +kernel
theorem dX11_lastFirst_107 : decode cX11_lastFirst 107 = .ok (.getfield 83, 3) := by decide +kernel
theorem dX11_lastFirst_110 : decode cX11_lastFirst 110 = .ok (.if_icmp .ge 45, 3) := by decide +kernel
theorem dX11_lastFirst_113 : decode cX11_lastFirst 113 = .ok (.iload 9, 2) := by decide +kernel
theorem dX11_lastFirst_115 : decode cX11_lastFirst 115 = .ok (.ifCond .eq 31, 3) := by decide +kernel
theorem dX11_lastFirst_118 : decode cX11_lastFirst 118 = .ok (.iload_n 2, 1) := by decide +kernel
theorem dX11_lastFirst_119 : decode cX11_lastFirst 119 = .ok (.iload 10, 2) := by decide +kernel
theorem dX11_lastFirst_121 : decode cX11_lastFirst 121 = .ok (.ishr, 1) := by decide +kernel
theorem dX11_lastFirst_122 : decode cX11_lastFirst 122 = .ok (.iconst 1, 1) := by decide +kernel
theorem dX11_lastFirst_123 : decode cX11_lastFirst 123 = .ok (.iand, 1) := by decide +kernel
theorem dX11_lastFirst_124 : decode cX11_lastFirst 124 = .ok (.ifCond .eq 18, 3) := by decide +kernel
theorem dX11_lastFirst_127 : decode cX11_lastFirst 127 = .ok (.aload_n 0, 1) := by decide +kernel
theorem dX11_lastFirst_128 : decode cX11_lastFirst 128 = .ok (.getfield 25, 3) := by decide +kernel
theorem dX11_lastFirst_131 : decode cX11_lastFirst 131 = .ok (.iload 10, 2) := by decide +kernel
theorem dX11_lastFirst_133 : decode cX11_lastFirst 133 = .ok (.iaload, 1) := by decide +kernel
theorem dX11_lastFirst_134 : decode cX11_lastFirst 134 = .ok (.iload 8, 2) := by decide +kernel
theorem dX11_lastFirst_136 : decode cX11_lastFirst 136 = .ok (.ishr, 1) := by decide +kernel
theorem dX11_lastFirst_137 : decode cX11_lastFirst 137 = .ok (.iconst 1, 1) := by decide +kernel
theorem dX11_lastFirst_138 : decode cX11_lastFirst 138 = .ok (.iand, 1) := by decide +kernel
theorem dX11_lastFirst_139 : decode cX11_lastFirst 139 = .ok (.ifCond .ne 7, 3) := by decide +kernel
theorem dX11_lastFirst_142 : decode cX11_lastFirst 142 = .ok (.iconst 1, 1) := by decide +kernel
theorem dX11_lastFirst_143 : decode cX11_lastFirst 143 = .ok (.goto 4, 3) := by decide +kernel
theorem dX11_lastFirst_146 : decode cX11_lastFirst 146 = .ok (.iconst 0, 1) := by decide +kernel
theorem dX11_lastFirst_147 : decode cX11_lastFirst 147 = .ok (.istore 9, 2) := by decide +kernel
theorem dX11_lastFirst_149 : decode cX11_lastFirst 149 = .ok (.iinc 10 1, 3) := by decide +kernel
theorem dX11_lastFirst_152 : decode cX11_lastFirst 152 = .ok (.goto (-48), 3) := by decide +kernel
theorem dX11_lastFirst_155 : decode cX11_lastFirst 155 = .ok (.iload_n 3, 1) := by decide +kernel
theorem dX11_lastFirst_156 : decode cX11_lastFirst 156 = .ok (.aload_n 0, 1) := by decide +kernel
theorem dX11_lastFirst_157 : decode cX11_lastFirst 157 = .ok (.getfield 16, 3) := by decide +kernel
theorem dX11_lastFirst_160 : decode cX11_lastFirst 160 = .ok (.iload 8, 2) := by decide +kernel
theorem dX11_lastFirst_162 : decode cX11_lastFirst 162 = .ok (.iaload, 1) := by decide +kernel
theorem dX11_lastFirst_163 : decode cX11_lastFirst 163 = .ok (.if_icmp .le 15, 3) := by decide +kernel
theorem dX11_lastFirst_166 : decode cX11_lastFirst 166 = .ok (.iload_n 3, 1) := by decide +kernel
theorem dX11_lastFirst_167 : decode cX11_lastFirst 167 = .ok (.aload_n 0, 1) := by decide +kernel
theorem dX11_lastFirst_168 : decode cX11_lastFirst 168 = .ok (.getfield 16, 3) := by decide +kernel
theorem dX11_lastFirst_171 : decode cX11_lastFirst 171 = .ok (.iload 8, 2) := by decide +kernel
theorem dX11_lastFirst_173 : decode cX11_lastFirst 173 = .ok (.iaload, 1) := by decide +kernel
theorem dX11_lastFirst_174 : decode cX11_lastFirst 174 = .ok (.isub, 1) := by decide +kernel
theorem dX11_lastFirst_175 : decode cX11_lastFirst 175 = .ok (.goto 4, 3) := by decide +kernel
theorem dX11_lastFirst_178 : decode cX11_lastFirst 178 = .ok (.iconst 0, 1) := by decide +kernel
theorem dX11_lastFirst_179 : decode cX11_lastFirst 179 = .ok (.istore 10, 2) := by decide +kernel
theorem dX11_lastFirst_181 : decode cX11_lastFirst 181 = .ok (.iload 9, 2) := by decide +kernel
theorem dX11_lastFirst_183 : decode cX11_lastFirst 183 = .ok (.ifCond .eq 24, 3) := by decide +kernel
theorem dX11_lastFirst_186 : decode cX11_lastFirst 186 = .ok (.iload 6, 2) := by decide +kernel
theorem dX11_lastFirst_188 : decode cX11_lastFirst 188 = .ok (.iconst (-1), 1) := by decide +kernel
theorem dX11_lastFirst_189 : decode cX11_lastFirst 189 = .ok (.if_icmp .eq 10, 3) := by decide +kernel
theorem dX11_lastFirst_192 : decode cX11_lastFirst 192 = .ok (.iload 10, 2) := by decide +kernel
theorem dX11_lastFirst_194 : decode cX11_lastFirst 194 = .ok (.iload 7, 2) := by decide +kernel
theorem dX11_lastFirst_196 : decode cX11_lastFirst 196 = .ok (.if_icmp .gt 11, 3) := by decide +kernel
theorem dX11_lastFirst_199 : decode cX11_lastFirst 199 = .ok (.iload 8, 2) := by decide +kernel
theorem dX11_lastFirst_201 : decode cX11_lastFirst 201 = .ok (.istore 6, 2) := by decide +kernel
theorem dX11_lastFirst_203 : decode cX11_lastFirst 203 = .ok (.iload 10, 2) := by decide +kernel
theorem dX11_lastFirst_205 : decode cX11_lastFirst 205 = .ok (.istore 7, 2) := by decide +kernel
theorem dX11_lastFirst_207 : decode cX11_lastFirst 207 = .ok (.iinc 8 1, 3) := by decide +kernel
theorem dX11_lastFirst_210 : decode cX11_lastFirst 210 = .ok (.goto (-135), 3) := by decide +kernel
theorem dX11_lastFirst_213 : decode cX11_lastFirst 213 = .ok (.aload_n 0, 1) := by decide +kernel
theorem dX11_lastFirst_214 : decode cX11_lastFirst 214 = .ok (.getfield 59, 3) := by decide +kernel
theorem dX11_lastFirst_217 : decode cX11_lastFirst 217 = .ok (.iload 5, 2) := by decide +kernel
theorem dX11_lastFirst_219 : decode cX11_lastFirst 219 = .ok (.iload 6, 2) := by decide +kernel
theorem dX11_lastFirst_221 : decode cX11_lastFirst 221 = .ok (.iastore, 1) := by decide +kernel
theorem dX11_lastFirst_222 : decode cX11_lastFirst 222 = .ok (.iload 7, 2) := by decide +kernel
theorem dX11_lastFirst_224 : decode cX11_lastFirst 224 = .ok (.iload 4, 2) := by decide +kernel
theorem dX11_lastFirst_226 : decode cX11_lastFirst 226 = .ok (.if_icmp .le 8, 3) := by decide +kernel
theorem dX11_lastFirst_229 : decode cX11_lastFirst 229 = .ok (.iload 7, 2) := by decide +kernel
theorem dX11_lastFirst_231 : decode cX11_lastFirst 231 = .ok (.goto 5, 3) := by decide +kernel
theorem dX11_lastFirst_234 : decode cX11_lastFirst 234 = .ok (.iload 4, 2) := by decide +kernel
theorem dX11_lastFirst_236 : decode cX11_lastFirst 236 = .ok (.istore 4, 2) := by decide +kernel
theorem dX11_lastFirst_238 : decode cX11_lastFirst 238 = .ok (.iload_n 2, 1) := by decide +kernel
theorem dX11_lastFirst_239 : decode cX11_lastFirst 239 = .ok (.iconst 1, 1) := by decide +kernel
theorem dX11_lastFirst_240 : decode cX11_lastFirst 240 = .ok (.iload 6, 2) := by decide +kernel
theorem dX11_lastFirst_242 : decode cX11_lastFirst 242 = .ok (.ishl, 1) := by decide +kernel
theorem dX11_lastFirst_243 : decode cX11_lastFirst 243 = .ok (.iconst (-1), 1) := by decide +kernel
theorem dX11_lastFirst_244 : decode cX11_lastFirst 244 = .ok (.ixor, 1) := by decide +kernel
theorem dX11_lastFirst_245 : decode cX11_lastFirst 245 = .ok (.iand, 1) := by decide +kernel
theorem dX11_lastFirst_246 : decode cX11_lastFirst 246 = .ok (.istore_n 2, 1) := by decide +kernel
theorem dX11_lastFirst_247 : decode cX11_lastFirst 247 = .ok (.iload_n 3, 1) := by decide +kernel
theorem dX11_lastFirst_248 : decode cX11_lastFirst 248 = .ok (.aload_n 0, 1) := by decide +kernel
theorem dX11_lastFirst_249 : decode cX11_lastFirst 249 = .ok (.getfield 7, 3) := by decide +kernel
theorem dX11_lastFirst_252 : decode cX11_lastFirst 252 = .ok (.iload 6, 2) := by decide +kernel
theorem dX11_lastFirst_254 : decode cX11_lastFirst 254 = .ok (.iaload, 1) := by decide +kernel
theorem dX11_lastFirst_255 : decode cX11_lastFirst 255 = .ok (.isub, 1) := by decide +kernel
theorem dX11_lastFirst_256 : decode cX11_lastFirst 256 = .ok (.istore_n 3, 1) := by decide +kernel
theorem dX11_lastFirst_257 : decode cX11_lastFirst 257 = .ok (.iinc 5 (-1), 3) := by decide +kernel
theorem dX11_lastFirst_260 : decode cX11_lastFirst 260 = .ok (.goto (-199), 3) := by decide +kernel
theorem dX11_lastFirst_263 : decode cX11_lastFirst 263 = .ok (.iload_n 1, 1) := by decide +kernel
theorem dX11_lastFirst_264 : decode cX11_lastFirst 264 = .ok (.iconst (-1), 1) := by decide +kernel
theorem dX11_lastFirst_265 : decode cX11_lastFirst 265 = .ok (.if_icmp .ne 8, 3) := by decide +kernel
theorem dX11_lastFirst_268 : decode cX11_lastFirst 268 = .ok (.iload 4, 2) := by decide +kernel
theorem dX11_lastFirst_270 : decode cX11_lastFirst 270 = .ok (.goto 9, 3) := by decide +kernel
theorem dX11_lastFirst_273 : decode cX11_lastFirst 273 = .ok (.aload_n 0, 1) := by decide +kernel
theorem dX11_lastFirst_274 : decode cX11_lastFirst 274 = .ok (.getfield 59, 3) := by decide +kernel
theorem dX11_lastFirst_277 : decode cX11_lastFirst 277 = .ok (.iload_n 1, 1) := by decide +kernel
theorem dX11_lastFirst_278 : decode cX11_lastFirst 278 = .ok (.iaload, 1) := by decide +kernel
theorem dX11_lastFirst_279 : decode cX11_lastFirst 279 = .ok (.ireturn, 1) := by decide +kernel
theorem dX11_byDue_0 : decode cX11_byDue 0 = .ok (.aload_n 0, 1) := by decide +kernel
theorem dX11_byDue_1 : decode cX11_byDue 1 = .ok (.invokevirtual 117, 3) := by decide +kernel
theorem dX11_byDue_4 : decode cX11_byDue 4 = .ok (.iconst 0, 1) := by decide +kernel
theorem dX11_byDue_5 : decode cX11_byDue 5 = .ok (.istore_n 1, 1) := by decide +kernel
theorem dX11_byDue_6 : decode cX11_byDue 6 = .ok (.iload_n 1, 1) := by decide +kernel
theorem dX11_byDue_7 : decode cX11_byDue 7 = .ok (.aload_n 0, 1) := by decide +kernel
theorem dX11_byDue_8 : decode cX11_byDue 8 = .ok (.getfield 83, 3) := by decide +kernel
theorem dX11_byDue_11 : decode cX11_byDue 11 = .ok (.if_icmp .ge 62, 3) := by decide +kernel
theorem dX11_byDue_14 : decode cX11_byDue 14 = .ok (.iconst 0, 1) := by decide +kernel
theorem dX11_byDue_15 : decode cX11_byDue 15 = .ok (.istore_n 2, 1) := by decide +kernel
theorem dX11_byDue_16 : decode cX11_byDue 16 = .ok (.iload_n 2, 1) := by decide +kernel
theorem dX11_byDue_17 : decode cX11_byDue 17 = .ok (.iconst 1, 1) := by decide +kernel
theorem dX11_byDue_18 : decode cX11_byDue 18 = .ok (.iadd, 1) := by decide +kernel
theorem dX11_byDue_19 : decode cX11_byDue 19 = .ok (.aload_n 0, 1) := by decide +kernel
theorem dX11_byDue_20 : decode cX11_byDue 20 = .ok (.getfield 83, 3) := by decide +kernel
theorem dX11_byDue_23 : decode cX11_byDue 23 = .ok (.if_icmp .ge 44, 3) := by decide +kernel
theorem dX11_byDue_26 : decode cX11_byDue 26 = .ok (.aload_n 0, 1) := by decide +kernel
theorem dX11_byDue_27 : decode cX11_byDue 27 = .ok (.getfield 16, 3) := by decide +kernel
theorem dX11_byDue_30 : decode cX11_byDue 30 = .ok (.aload_n 0, 1) := by decide +kernel
theorem dX11_byDue_31 : decode cX11_byDue 31 = .ok (.getfield 56, 3) := by decide +kernel
theorem dX11_byDue_34 : decode cX11_byDue 34 = .ok (.iload_n 2, 1) := by decide +kernel
theorem dX11_byDue_35 : decode cX11_byDue 35 = .ok (.iaload, 1) := by decide +kernel
theorem dX11_byDue_36 : decode cX11_byDue 36 = .ok (.iaload, 1) := by decide +kernel
theorem dX11_byDue_37 : decode cX11_byDue 37 = .ok (.aload_n 0, 1) := by decide +kernel
theorem dX11_byDue_38 : decode cX11_byDue 38 = .ok (.getfield 16, 3) := by decide +kernel
theorem dX11_byDue_41 : decode cX11_byDue 41 = .ok (.aload_n 0, 1) := by decide +kernel
theorem dX11_byDue_42 : decode cX11_byDue 42 = .ok (.getfield 56, 3) := by decide +kernel
theorem dX11_byDue_45 : decode cX11_byDue 45 = .ok (.iload_n 2, 1) := by decide +kernel
theorem dX11_byDue_46 : decode cX11_byDue 46 = .ok (.iconst 1, 1) := by decide +kernel
theorem dX11_byDue_47 : decode cX11_byDue 47 = .ok (.iadd, 1) := by decide +kernel
theorem dX11_byDue_48 : decode cX11_byDue 48 = .ok (.iaload, 1) := by decide +kernel
theorem dX11_byDue_49 : decode cX11_byDue 49 = .ok (.iaload, 1) := by decide +kernel
theorem dX11_byDue_50 : decode cX11_byDue 50 = .ok (.if_icmp .le 11, 3) := by decide +kernel
theorem dX11_byDue_53 : decode cX11_byDue 53 = .ok (.aload_n 0, 1) := by decide +kernel
theorem dX11_byDue_54 : decode cX11_byDue 54 = .ok (.iload_n 2, 1) := by decide +kernel
theorem dX11_byDue_55 : decode cX11_byDue 55 = .ok (.iload_n 2, 1) := by decide +kernel
theorem dX11_byDue_56 : decode cX11_byDue 56 = .ok (.iconst 1, 1) := by decide +kernel
theorem dX11_byDue_57 : decode cX11_byDue 57 = .ok (.iadd, 1) := by decide +kernel
theorem dX11_byDue_58 : decode cX11_byDue 58 = .ok (.invokevirtual 113, 3) := by decide +kernel
theorem dX11_byDue_61 : decode cX11_byDue 61 = .ok (.iinc 2 1, 3) := by decide +kernel
theorem dX11_byDue_64 : decode cX11_byDue 64 = .ok (.goto (-48), 3) := by decide +kernel
theorem dX11_byDue_67 : decode cX11_byDue 67 = .ok (.iinc 1 1, 3) := by decide +kernel
theorem dX11_byDue_70 : decode cX11_byDue 70 = .ok (.goto (-64), 3) := by decide +kernel
theorem dX11_byDue_73 : decode cX11_byDue 73 = .ok (.return_, 1) := by decide +kernel
theorem dX11_onTime_0 : decode cX11_onTime 0 = .ok (.aload_n 0, 1) := by decide +kernel
theorem dX11_onTime_1 : decode cX11_onTime 1 = .ok (.invokevirtual 142, 3) := by decide +kernel
theorem dX11_onTime_4 : decode cX11_onTime 4 = .ok (.iconst 0, 1) := by decide +kernel
theorem dX11_onTime_5 : decode cX11_onTime 5 = .ok (.istore_n 1, 1) := by decide +kernel
theorem dX11_onTime_6 : decode cX11_onTime 6 = .ok (.iconst 0, 1) := by decide +kernel
theorem dX11_onTime_7 : decode cX11_onTime 7 = .ok (.istore_n 2, 1) := by decide +kernel
theorem dX11_onTime_8 : decode cX11_onTime 8 = .ok (.iconst 0, 1) := by decide +kernel
theorem dX11_onTime_9 : decode cX11_onTime 9 = .ok (.istore_n 3, 1) := by decide +kernel
theorem dX11_onTime_10 : decode cX11_onTime 10 = .ok (.iload_n 3, 1) := by decide +kernel
theorem dX11_onTime_11 : decode cX11_onTime 11 = .ok (.aload_n 0, 1) := by decide +kernel
theorem dX11_onTime_12 : decode cX11_onTime 12 = .ok (.getfield 83, 3) := by decide +kernel
theorem dX11_onTime_15 : decode cX11_onTime 15 = .ok (.if_icmp .ge 155, 3) := by decide +kernel
theorem dX11_onTime_18 : decode cX11_onTime 18 = .ok (.iload_n 1, 1) := by decide +kernel
theorem dX11_onTime_19 : decode cX11_onTime 19 = .ok (.iconst 1, 1) := by decide +kernel
theorem dX11_onTime_20 : decode cX11_onTime 20 = .ok (.aload_n 0, 1) := by decide +kernel
theorem dX11_onTime_21 : decode cX11_onTime 21 = .ok (.getfield 56, 3) := by decide +kernel
theorem dX11_onTime_24 : decode cX11_onTime 24 = .ok (.iload_n 3, 1) := by decide +kernel
theorem dX11_onTime_25 : decode cX11_onTime 25 = .ok (.iaload, 1) := by decide +kernel
theorem dX11_onTime_26 : decode cX11_onTime 26 = .ok (.ishl, 1) := by decide +kernel
theorem dX11_onTime_27 : decode cX11_onTime 27 = .ok (.ior, 1) := by decide +kernel
theorem dX11_onTime_28 : decode cX11_onTime 28 = .ok (.istore_n 1, 1) := by decide +kernel
theorem dX11_onTime_29 : decode cX11_onTime 29 = .ok (.iload_n 2, 1) := by decide +kernel
